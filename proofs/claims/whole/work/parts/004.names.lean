def wsL_law0_r1 : List Cond := [Cond.classLink RL 8 RX5, Cond.instantiable RX5 5, Cond.initialized RX5, Cond.classLink RL 83 RX6, Cond.instantiable RX6 15, Cond.initialized RX6, Cond.arrayClass .long, Cond.methodLink RL 82 yX5_init, Cond.instanceMethod yX5_init, Cond.code yX5_init cX5_init 1 none, Cond.methodLink RX5 1 objectInit, Cond.instanceMethod objectInit, Cond.code objectInit ⟨#[0xb1]⟩ 1 none, Cond.classLink RX5 7 RX2, Cond.instantiable RX2 8, Cond.initialized RX2, Cond.fieldLink RX5 10 "HiddenPeriods" "state" "LHiddenPeriods$State;", Cond.classLink RX5 16 RX1, Cond.instantiable RX1 3, Cond.initialized RX1, Cond.fieldLink RX5 19 "HiddenPeriods" "history" "LHiddenPeriods$History;", Cond.classLink RX5 23 RX4, Cond.instantiable RX4 3, Cond.initialized RX4]
def wsL_law0_r2 : List Cond := [Cond.fieldLink RX5 26 "HiddenPeriods" "text" "LHiddenPeriods$Text;", Cond.classLink RX5 30 RX0, Cond.instantiable RX0 2, Cond.initialized RX0, Cond.fieldLink RX5 33 "HiddenPeriods" "counts" "LHiddenPeriods$Counts;", Cond.classLink RX5 37 RX3, Cond.instantiable RX3 3, Cond.initialized RX3, Cond.fieldLink RX5 40 "HiddenPeriods" "telling" "LHiddenPeriods$Telling;", Cond.instanceMethod yX2_init, Cond.code yX2_init cX2_init 1 none, Cond.methodLink RX2 3 objectInit, Cond.arrayClass .int, Cond.fieldLink RX2 9 "HiddenPeriods$State" "row" "[I", Cond.fieldLink RX2 15 "HiddenPeriods$State" "tenths" "[I", Cond.fieldLink RX2 18 "HiddenPeriods$State" "phases" "[I", Cond.fieldLink RX2 21 "HiddenPeriods$State" "hundredths" "I", Cond.methodLink RX5 18 yX1_init, Cond.instanceMethod yX1_init, Cond.code yX1_init cX1_init 2 none, Cond.methodLink RX1 3 objectInit, Cond.classLink RX1 9 RX2, Cond.fieldLink RX1 11 "HiddenPeriods$History" "states" "[LHiddenPeriods$State;", Cond.instanceMethod yX4_init]
def wsL_law0_r3 : List Cond := [Cond.code yX4_init cX4_init 1 none, Cond.methodLink RX4 3 objectInit, Cond.fieldLink RX4 9 "HiddenPeriods$Text" "codes" "[I", Cond.fieldLink RX4 15 "HiddenPeriods$Text" "unfolded" "[I", Cond.instanceMethod yX0_init, Cond.code yX0_init cX0_init 1 none, Cond.methodLink RX0 3 objectInit, Cond.fieldLink RX0 9 "HiddenPeriods$Counts" "cells" "[I", Cond.instanceMethod yX3_init, Cond.code yX3_init cX3_init 1 none, Cond.methodLink RX3 3 objectInit, Cond.fieldLink RX3 9 "HiddenPeriods$Telling" "strongSigns" "[I", Cond.fieldLink RX3 15 "HiddenPeriods$Telling" "tellers" "[I", Cond.fieldLink RX3 18 "HiddenPeriods$Telling" "signs" "[I", Cond.methodLink RL 85 yX6_init, Cond.instanceMethod yX6_init, Cond.code yX6_init cX6_init 1 none, Cond.methodLink RX6 1 objectInit, Cond.fieldLink RX6 7 "HiddenPeriodsModel" "s" "[I", Cond.fieldLink RX6 13 "HiddenPeriodsModel" "saved" "[I", Cond.fieldLink RX6 16 "HiddenPeriodsModel" "buffer" "[I", Cond.fieldLink RX6 19 "HiddenPeriodsModel" "counts" "[I", Cond.fieldLink RX6 22 "HiddenPeriodsModel" "strongSigns" "[I", Cond.fieldLink RX6 25 "HiddenPeriodsModel" "toldSigns" "[I"]
def wsL_law0_r4 : List Cond := [Cond.fieldLink RX6 28 "HiddenPeriodsModel" "tellers" "[I", Cond.fieldLink RX6 31 "HiddenPeriodsModel" "read" "[I", Cond.fieldLink RX6 34 "HiddenPeriodsModel" "thrown" "I", Cond.methodLink RL 86 yL_put, Cond.static yL_put, Cond.initialized RL, Cond.codeWith yL_put cL_put 4 (some .int) [(0, 9, 12, 13), (0, 9, 15, 15)], Cond.classLink RL 13 "java/lang/IllegalArgumentException", Cond.classLink RL 15 "java/lang/IllegalStateException", Cond.methodLink RL 7 yX5_put, Cond.instanceMethod yX5_put, Cond.selects RX5 yX5_put yX5_put, Cond.code yX5_put cX5_put 2 (some .int), Cond.classLink RX5 48 "java/lang/IllegalArgumentException", Cond.initialized "java/lang/IllegalArgumentException", Cond.classLink RX5 59 "java/lang/IllegalStateException", Cond.initialized "java/lang/IllegalStateException", Cond.methodLink RX5 44 yX5_isSign, Cond.static yX5_isSign, Cond.code yX5_isSign cX5_isSign 1 (some .boolean), Cond.methodLink RX5 88 yX5_isWithin, Cond.static yX5_isWithin, Cond.code yX5_isWithin cX5_isWithin 3 (some .boolean), Cond.methodLink RX5 64 yX1_save]
def wsL_law0_r5 : List Cond := [Cond.instanceMethod yX1_save, Cond.selects RX1 yX1_save yX1_save, Cond.code yX1_save cX1_save 3 none, Cond.fieldLink RX1 18 "HiddenPeriods$History" "next" "I", Cond.fieldLink RX1 30 "HiddenPeriods$History" "many" "I", Cond.methodLink RX1 33 Lib.Math.min.name, Cond.static Lib.Math.min.name, Cond.initialized "java/lang/Math", Cond.code Lib.Math.min.name Lib.Math.min.code 2 (some .int), Cond.methodLink RX1 22 yX1_slotAt, Cond.instanceMethod yX1_slotAt, Cond.selects RX1 yX1_slotAt yX1_slotAt, Cond.code yX1_slotAt cX1_slotAt 2 (some (.object "HiddenPeriods$State")), Cond.methodLink RX1 26 yX2_become, Cond.instanceMethod yX2_become, Cond.selects RX2 yX2_become yX2_become, Cond.code yX2_become cX2_become 2 none, Cond.fieldLink RX2 29 "HiddenPeriods$State" "length" "I", Cond.fieldLink RX2 32 "HiddenPeriods$State" "kept" "I", Cond.fieldLink RX2 35 "HiddenPeriods$State" "firstPlace" "I", Cond.fieldLink RX2 38 "HiddenPeriods$State" "mostPlaces" "I", Cond.static yX5_copyCells, Cond.code yX5_copyCells cX5_copyCells 2 none, Cond.methodLink RX5 346 Lib.Math.min.name]
def wsL_law0_r6 : List Cond := [Cond.methodLink RX5 349 arraycopyName, Cond.native arraycopyName, Cond.static arraycopyName, Cond.initialized "java/lang/System", Cond.methodLink RX5 68 yX2_addSign, Cond.instanceMethod yX2_addSign, Cond.selects RX2 yX2_addSign yX2_addSign, Cond.code yX2_addSign cX2_addSign 2 none, Cond.static yX5_lay, Cond.code yX5_lay cX5_lay 3 none, Cond.methodLink RL 91 yX6_put, Cond.instanceMethod yX6_put, Cond.selects RX6 yX6_put yX6_put, Cond.code yX6_put cX6_put 2 (some .int), Cond.methodLink RX6 84 yX6_in, Cond.static yX6_in, Cond.code yX6_in cX6_in 3 (some .boolean), Cond.methodLink RX6 88 yX6_fails, Cond.instanceMethod yX6_fails, Cond.selects RX6 yX6_fails yX6_fails, Cond.code yX6_fails cX6_fails 2 (some .int), Cond.methodLink RX6 91 yX6_saves, Cond.instanceMethod yX6_saves, Cond.selects RX6 yX6_saves yX6_saves]
def wsL_law0_r7 : List Cond := [Cond.code yX6_saves cX6_saves 2 none, Cond.fieldLink RX6 38 "HiddenPeriodsModel" "savedMany" "I", Cond.methodLink RL 92 yX6_thrown, Cond.instanceMethod yX6_thrown, Cond.selects RX6 yX6_thrown yX6_thrown, Cond.code yX6_thrown cX6_thrown 1 (some .int), Cond.methodLink RL 95 yL_change, Cond.static yL_change, Cond.codeWith yL_change cL_change 5 (some .int) [(0, 10, 13, 21), (0, 10, 17, 13)], Cond.classLink RL 21 "java/lang/IndexOutOfBoundsException", Cond.methodLink RL 17 yX5_change, Cond.instanceMethod yX5_change, Cond.selects RX5 yX5_change yX5_change, Cond.code yX5_change cX5_change 4 (some .int), Cond.classLink RX5 75 "java/lang/IndexOutOfBoundsException", Cond.initialized "java/lang/IndexOutOfBoundsException", Cond.methodLink RX5 72 yX2_hasPlace, Cond.instanceMethod yX2_hasPlace, Cond.selects RX2 yX2_hasPlace yX2_hasPlace, Cond.code yX2_hasPlace cX2_hasPlace 2 (some .boolean), Cond.methodLink RX5 80 yX2_signAt, Cond.instanceMethod yX2_signAt, Cond.selects RX2 yX2_signAt yX2_signAt, Cond.code yX2_signAt cX2_signAt 2 (some .int)]
def wsL_law0_r8 : List Cond := [Cond.methodLink RX5 84 yX2_changeSign, Cond.instanceMethod yX2_changeSign, Cond.selects RX2 yX2_changeSign yX2_changeSign, Cond.code yX2_changeSign cX2_changeSign 3 none, Cond.methodLink RL 98 yX6_change, Cond.instanceMethod yX6_change, Cond.selects RX6 yX6_change yX6_change, Cond.code yX6_change cX6_change 4 (some .int), Cond.methodLink RL 99 yL_cut, Cond.static yL_cut, Cond.codeWith yL_cut cL_cut 4 (some .int) [(0, 9, 12, 13)], Cond.methodLink RL 23 yX5_cut, Cond.instanceMethod yX5_cut, Cond.selects RX5 yX5_cut yX5_cut, Cond.code yX5_cut cX5_cut 2 (some .int), Cond.methodLink RX5 94 Lib.Math.max.name, Cond.static Lib.Math.max.name, Cond.code Lib.Math.max.name Lib.Math.max.code 2 (some .int), Cond.methodLink RL 101 yX6_cut, Cond.instanceMethod yX6_cut, Cond.selects RX6 yX6_cut yX6_cut, Cond.code yX6_cut cX6_cut 4 (some .int), Cond.methodLink RL 102 yL_grow, Cond.static yL_grow]
def wsL_law0_r9 : List Cond := [Cond.codeWith yL_grow cL_grow 6 (some .int) [(0, 12, 15, 13), (0, 12, 19, 15)], Cond.methodLink RL 26 yX5_grow, Cond.instanceMethod yX5_grow, Cond.selects RX5 yX5_grow yX5_grow, Cond.code yX5_grow cX5_grow 5 (some .int), Cond.methodLink RX5 100 yX5_isTenths, Cond.static yX5_isTenths, Cond.code yX5_isTenths cX5_isTenths 1 (some .boolean), Cond.methodLink RX5 107 yX5_grownSign, Cond.static yX5_grownSign, Cond.code yX5_grownSign cX5_grownSign 4 (some .int), Cond.methodLink RX5 343 yX5_classOf, Cond.static yX5_classOf, Cond.code yX5_classOf cX5_classOf 3 (some .int), Cond.methodLink RL 105 yX6_grow, Cond.instanceMethod yX6_grow, Cond.selects RX6 yX6_grow yX6_grow, Cond.code yX6_grow cX6_grow 7 (some .int), Cond.methodLink RX6 49 yX6_classOf, Cond.static yX6_classOf, Cond.code yX6_classOf cX6_classOf 3 (some .int), Cond.methodLink RL 106 yL_keep, Cond.static yL_keep, Cond.codeWith yL_keep cL_keep 5 (some .int) [(0, 10, 13, 13), (0, 10, 17, 15)]]
def wsL_law0_r10 : List Cond := [Cond.methodLink RL 30 yX5_keep, Cond.instanceMethod yX5_keep, Cond.selects RX5 yX5_keep yX5_keep, Cond.code yX5_keep cX5_keep 3 (some .int), Cond.methodLink RX5 111 yX5_isPeriod, Cond.static yX5_isPeriod, Cond.code yX5_isPeriod cX5_isPeriod 2 (some .boolean), Cond.methodLink RX5 117 yX5_canKeep, Cond.instanceMethod yX5_canKeep, Cond.selects RX5 yX5_canKeep yX5_canKeep, Cond.code yX5_canKeep cX5_canKeep 3 (some .boolean), Cond.methodLink RX5 340 yX2_hasPeriod, Cond.instanceMethod yX2_hasPeriod, Cond.selects RX2 yX2_hasPeriod yX2_hasPeriod, Cond.code yX2_hasPeriod cX2_hasPeriod 4 (some .boolean), Cond.methodLink RX2 49 yX2_tenthsAt, Cond.instanceMethod yX2_tenthsAt, Cond.selects RX2 yX2_tenthsAt yX2_tenthsAt, Cond.code yX2_tenthsAt cX2_tenthsAt 2 (some .int), Cond.static yX5_cellAt, Cond.code yX5_cellAt cX5_cellAt 2 (some .int), Cond.methodLink RX2 53 yX2_phaseAt, Cond.instanceMethod yX2_phaseAt, Cond.selects RX2 yX2_phaseAt yX2_phaseAt]
def wsL_law0_r11 : List Cond := [Cond.code yX2_phaseAt cX2_phaseAt 2 (some .int), Cond.methodLink RX5 122 yX2_addPeriod, Cond.instanceMethod yX2_addPeriod, Cond.selects RX2 yX2_addPeriod yX2_addPeriod, Cond.code yX2_addPeriod cX2_addPeriod 3 none, Cond.methodLink RL 108 yX6_keep, Cond.instanceMethod yX6_keep, Cond.selects RX6 yX6_keep yX6_keep, Cond.code yX6_keep cX6_keep 3 (some .int), Cond.methodLink RX6 94 yX6_isPeriod, Cond.static yX6_isPeriod, Cond.code yX6_isPeriod cX6_isPeriod 2 (some .boolean), Cond.methodLink RX6 98 yX6_isKept, Cond.instanceMethod yX6_isKept, Cond.selects RX6 yX6_isKept yX6_isKept, Cond.code yX6_isKept cX6_isKept 5 (some .boolean), Cond.methodLink RX6 70 yX6_tenthsOf, Cond.instanceMethod yX6_tenthsOf, Cond.selects RX6 yX6_tenthsOf yX6_tenthsOf, Cond.code yX6_tenthsOf cX6_tenthsOf 2 (some .int), Cond.methodLink RX6 73 yX6_phaseOf, Cond.instanceMethod yX6_phaseOf, Cond.selects RX6 yX6_phaseOf yX6_phaseOf, Cond.code yX6_phaseOf cX6_phaseOf 2 (some .int)]
def wsL_law0_r12 : List Cond := [Cond.methodLink RX6 101 yX6_keeps, Cond.instanceMethod yX6_keeps, Cond.selects RX6 yX6_keeps yX6_keeps, Cond.code yX6_keeps cX6_keeps 3 (some .int), Cond.methodLink RL 109 yL_drop, Cond.static yL_drop, Cond.codeWith yL_drop cL_drop 4 (some .int) [(0, 9, 12, 21)], Cond.methodLink RL 33 yX5_drop, Cond.instanceMethod yX5_drop, Cond.selects RX5 yX5_drop yX5_drop, Cond.code yX5_drop cX5_drop 2 (some .int), Cond.methodLink RX5 128 yX2_hasNumber, Cond.instanceMethod yX2_hasNumber, Cond.selects RX2 yX2_hasNumber yX2_hasNumber, Cond.code yX2_hasNumber cX2_hasNumber 2 (some .boolean), Cond.methodLink RX5 133 yX2_removePeriod, Cond.instanceMethod yX2_removePeriod, Cond.selects RX2 yX2_removePeriod yX2_removePeriod, Cond.code yX2_removePeriod cX2_removePeriod 3 none, Cond.methodLink RL 111 yX6_drop, Cond.instanceMethod yX6_drop, Cond.selects RX6 yX6_drop yX6_drop, Cond.code yX6_drop cX6_drop 3 (some .int), Cond.methodLink RL 112 yL_find]
def wsL_law0_r13 : List Cond := [Cond.static yL_find, Cond.codeWith yL_find cL_find 5 (some .int) [(0, 10, 13, 13), (0, 10, 17, 15)], Cond.methodLink RL 36 yX5_find, Cond.instanceMethod yX5_find, Cond.selects RX5 yX5_find yX5_find, Cond.code yX5_find cX5_find 4 (some .int), Cond.methodLink RX5 136 yX5_isTenthsRange, Cond.static yX5_isTenthsRange, Cond.code yX5_isTenthsRange cX5_isTenthsRange 2 (some .boolean), Cond.methodLink RX5 141 yX5_bestTenths, Cond.instanceMethod yX5_bestTenths, Cond.selects RX5 yX5_bestTenths yX5_bestTenths, Cond.code yX5_bestTenths cX5_bestTenths 7 (some .int), Cond.methodLink RX5 236 yX0_takeWindow, Cond.instanceMethod yX0_takeWindow, Cond.selects RX0 yX0_takeWindow yX0_takeWindow, Cond.code yX0_takeWindow cX0_takeWindow 4 none, Cond.methodLink RX0 28 yX2_windowStart, Cond.instanceMethod yX2_windowStart, Cond.selects RX2 yX2_windowStart yX2_windowStart, Cond.code yX2_windowStart cX2_windowStart 1 (some .int), Cond.methodLink RX0 32 yX2_windowPlaces, Cond.instanceMethod yX2_windowPlaces, Cond.selects RX2 yX2_windowPlaces yX2_windowPlaces]
def wsL_law0_r14 : List Cond := [Cond.code yX2_windowPlaces cX2_windowPlaces 1 (some .int), Cond.methodLink RX2 56 Lib.Math.min.name, Cond.methodLink RX2 62 Lib.Math.max.name, Cond.methodLink RX0 35 yX0_takeStretch, Cond.instanceMethod yX0_takeStretch, Cond.selects RX0 yX0_takeStretch yX0_takeStretch, Cond.code yX0_takeStretch cX0_takeStretch 9 none, Cond.fieldLink RX0 48 "HiddenPeriods$Counts" "classes" "I", Cond.methodLink RX0 39 yJ7_fill_53178, Cond.static yJ7_fill_53178, Cond.initialized RJ7, Cond.code yJ7_fill_53178 cJ7_fill_53178 4 none, Cond.static yX5_classesOf, Cond.code yX5_classesOf cX5_classesOf 1 (some .int), Cond.methodLink RX0 56 yX2_signAt, Cond.methodLink RX5 240 yX0_explained, Cond.instanceMethod yX0_explained, Cond.selects RX0 yX0_explained yX0_explained, Cond.code yX0_explained cX0_explained 3 (some .int), Cond.methodLink RX0 66 yX0_greatestOf, Cond.instanceMethod yX0_greatestOf, Cond.selects RX0 yX0_greatestOf yX0_greatestOf, Cond.code yX0_greatestOf cX0_greatestOf 5 (some .int), Cond.methodLink RX0 59 yX0_countOf]
def wsL_law0_r15 : List Cond := [Cond.instanceMethod yX0_countOf, Cond.selects RX0 yX0_countOf yX0_countOf, Cond.code yX0_countOf cX0_countOf 4 (some .int), Cond.methodLink RX5 212 yX5_classesOf, Cond.methodLink RL 114 yX6_find, Cond.instanceMethod yX6_find, Cond.selects RX6 yX6_find yX6_find, Cond.code yX6_find cX6_find 4 (some .int), Cond.methodLink RX6 108 yX6_bestOf, Cond.instanceMethod yX6_bestOf, Cond.selects RX6 yX6_bestOf yX6_bestOf, Cond.code yX6_bestOf cX6_bestOf 7 (some .int), Cond.methodLink RX6 105 yX6_explainedNow, Cond.instanceMethod yX6_explainedNow, Cond.selects RX6 yX6_explainedNow yX6_explainedNow, Cond.code yX6_explainedNow cX6_explainedNow 3 (some .int), Cond.methodLink RX6 41 yX6_firstPlace, Cond.instanceMethod yX6_firstPlace, Cond.selects RX6 yX6_firstPlace yX6_firstPlace, Cond.code yX6_firstPlace cX6_firstPlace 1 (some .int), Cond.methodLink RX6 63 yX6_lastPlace, Cond.instanceMethod yX6_lastPlace, Cond.selects RX6 yX6_lastPlace yX6_lastPlace, Cond.code yX6_lastPlace cX6_lastPlace 2 (some .int)]
def wsL_law0_r16 : List Cond := [Cond.methodLink RX6 66 yX6_explained, Cond.instanceMethod yX6_explained, Cond.selects RX6 yX6_explained yX6_explained, Cond.code yX6_explained cX6_explained 7 (some .int), Cond.methodLink RX6 59 yX6_lays, Cond.instanceMethod yX6_lays, Cond.selects RX6 yX6_lays yX6_lays, Cond.code yX6_lays cX6_lays 6 none, Cond.methodLink RX6 45 yX6_classesOf, Cond.static yX6_classesOf, Cond.code yX6_classesOf cX6_classesOf 1 (some .int), Cond.methodLink RX6 53 yX6_signOf, Cond.instanceMethod yX6_signOf, Cond.selects RX6 yX6_signOf yX6_signOf, Cond.code yX6_signOf cX6_signOf 5 (some .int), Cond.methodLink RL 115 yX5_mend, Cond.instanceMethod yX5_mend, Cond.selects RX5 yX5_mend yX5_mend, Cond.code yX5_mend cX5_mend 5 (some .int), Cond.methodLink RX5 146 yX3_read, Cond.instanceMethod yX3_read, Cond.selects RX3 yX3_read yX3_read, Cond.code yX3_read cX3_read 4 none, Cond.methodLink RX3 21 yJ7_fill_53178]
def wsL_law0_r17 : List Cond := [Cond.methodLink RX3 33 yX3_readStrongSigns, Cond.instanceMethod yX3_readStrongSigns, Cond.selects RX3 yX3_readStrongSigns yX3_readStrongSigns, Cond.code yX3_readStrongSigns cX3_readStrongSigns 5 none, Cond.methodLink RX3 41 yX0_takeKept, Cond.instanceMethod yX0_takeKept, Cond.selects RX0 yX0_takeKept yX0_takeKept, Cond.code yX0_takeKept cX0_takeKept 3 none, Cond.methodLink RX0 15 yX2_tenthsAt, Cond.methodLink RX0 21 yX2_phaseAt, Cond.methodLink RX0 24 yX0_takeWindow, Cond.methodLink RX3 52 yX0_strongSignOf, Cond.instanceMethod yX0_strongSignOf, Cond.selects RX0 yX0_strongSignOf yX0_strongSignOf, Cond.code yX0_strongSignOf cX0_strongSignOf 4 (some .int), Cond.methodLink RX0 69 yX0_placesOf, Cond.instanceMethod yX0_placesOf, Cond.selects RX0 yX0_placesOf yX0_placesOf, Cond.code yX0_placesOf cX0_placesOf 4 (some .int), Cond.methodLink RX0 63 yX0_signOf, Cond.instanceMethod yX0_signOf, Cond.selects RX0 yX0_signOf yX0_signOf, Cond.code yX0_signOf cX0_signOf 6 (some .int), Cond.methodLink RX3 37 yX3_tellBy]
def wsL_law0_r18 : List Cond := [Cond.instanceMethod yX3_tellBy, Cond.selects RX3 yX3_tellBy yX3_tellBy, Cond.code yX3_tellBy cX3_tellBy 8 none, Cond.methodLink RX3 60 yX2_tenthsAt, Cond.methodLink RX3 64 yX2_phaseAt, Cond.methodLink RX3 67 yX2_windowEnd, Cond.instanceMethod yX2_windowEnd, Cond.selects RX2 yX2_windowEnd yX2_windowEnd, Cond.code yX2_windowEnd cX2_windowEnd 1 (some .int), Cond.methodLink RX2 65 yX2_windowStart, Cond.methodLink RX2 69 yX2_windowPlaces, Cond.methodLink RX3 71 yX2_windowStart, Cond.methodLink RX3 82 yX3_tellerAt, Cond.instanceMethod yX3_tellerAt, Cond.selects RX3 yX3_tellerAt yX3_tellerAt, Cond.code yX3_tellerAt cX3_tellerAt 2 (some .int), Cond.methodLink RX5 150 yX2_windowEnd, Cond.methodLink RX5 154 yX2_windowStart, Cond.methodLink RX5 157 yX3_signAt, Cond.instanceMethod yX3_signAt, Cond.selects RX3 yX3_signAt yX3_signAt, Cond.code yX3_signAt cX3_signAt 2 (some .int), Cond.methodLink RL 118 yX6_mend, Cond.instanceMethod yX6_mend]
def wsL_law0_r19 : List Cond := [Cond.selects RX6 yX6_mend yX6_mend, Cond.code yX6_mend cX6_mend 3 (some .int), Cond.methodLink RX6 111 yX6_laysTold, Cond.instanceMethod yX6_laysTold, Cond.selects RX6 yX6_laysTold yX6_laysTold, Cond.code yX6_laysTold cX6_laysTold 5 none, Cond.methodLink RX6 76 yX6_laysPeriod, Cond.instanceMethod yX6_laysPeriod, Cond.selects RX6 yX6_laysPeriod yX6_laysPeriod, Cond.code yX6_laysPeriod cX6_laysPeriod 2 none, Cond.methodLink RX6 80 yX6_isStrong, Cond.instanceMethod yX6_isStrong, Cond.selects RX6 yX6_isStrong yX6_isStrong, Cond.code yX6_isStrong cX6_isStrong 3 (some .boolean), Cond.methodLink RX6 56 yX6_placesOf, Cond.instanceMethod yX6_placesOf, Cond.selects RX6 yX6_placesOf yX6_placesOf, Cond.code yX6_placesOf cX6_placesOf 4 (some .int), Cond.methodLink RX6 114 yX6_isExplained, Cond.instanceMethod yX6_isExplained, Cond.selects RX6 yX6_isExplained yX6_isExplained, Cond.code yX6_isExplained cX6_isExplained 2 (some .boolean), Cond.methodLink RL 119 yL_set, Cond.static yL_set]
def wsL_law0_r20 : List Cond := [Cond.codeWith yL_set cL_set 5 (some .int) [(0, 10, 13, 21), (0, 10, 17, 13)], Cond.methodLink RL 39 yX5_set, Cond.instanceMethod yX5_set, Cond.selects RX5 yX5_set yX5_set, Cond.code yX5_set cX5_set 4 (some .int), Cond.methodLink RX5 160 yX5_isValueOf, Cond.static yX5_isValueOf, Cond.code yX5_isValueOf cX5_isValueOf 2 (some .boolean), Cond.methodLink RX5 165 yX2_settingAt, Cond.instanceMethod yX2_settingAt, Cond.selects RX2 yX2_settingAt yX2_settingAt, Cond.code yX2_settingAt cX2_settingAt 2 (some .int), Cond.methodLink RX5 168 yX2_changeSetting, Cond.instanceMethod yX2_changeSetting, Cond.selects RX2 yX2_changeSetting yX2_changeSetting, Cond.code yX2_changeSetting cX2_changeSetting 3 none, Cond.methodLink RL 121 yX6_set, Cond.instanceMethod yX6_set, Cond.selects RX6 yX6_set yX6_set, Cond.code yX6_set cX6_set 5 (some .int), Cond.methodLink RL 122 yL_append, Cond.static yL_append, Cond.codeWith yL_append cL_append 4 (some .int) [(0, 9, 12, 13), (0, 9, 15, 15)], Cond.methodLink RL 42 yX5_append]
def wsL_law0_r21 : List Cond := [Cond.instanceMethod yX5_append, Cond.selects RX5 yX5_append yX5_append, Cond.code yX5_append cX5_append 2 (some .int), Cond.methodLink RX5 176 yX4_add, Cond.instanceMethod yX4_add, Cond.selects RX4 yX4_add yX4_add, Cond.code yX4_add cX4_add 2 none, Cond.fieldLink RX4 18 "HiddenPeriods$Text" "length" "I", Cond.methodLink RL 124 yX6_append, Cond.instanceMethod yX6_append, Cond.selects RX6 yX6_append yX6_append, Cond.code yX6_append cX6_append 2 (some .int), Cond.fieldLink RX6 117 "HiddenPeriodsModel" "length" "I", Cond.methodLink RL 125 yX5_clearBuffer, Cond.instanceMethod yX5_clearBuffer, Cond.selects RX5 yX5_clearBuffer yX5_clearBuffer, Cond.code yX5_clearBuffer cX5_clearBuffer 2 (some .int), Cond.methodLink RL 128 yX6_clearBuffer, Cond.instanceMethod yX6_clearBuffer, Cond.selects RX6 yX6_clearBuffer yX6_clearBuffer, Cond.code yX6_clearBuffer cX6_clearBuffer 2 (some .int), Cond.methodLink RL 129 yX5_firstError, Cond.instanceMethod yX5_firstError, Cond.selects RX5 yX5_firstError yX5_firstError]
def wsL_law0_r22 : List Cond := [Cond.code yX5_firstError cX5_firstError 1 (some .int), Cond.methodLink RX5 179 yX4_errorIndex, Cond.instanceMethod yX4_errorIndex, Cond.selects RX4 yX4_errorIndex yX4_errorIndex, Cond.code yX4_errorIndex cX4_errorIndex 3 (some .int), Cond.methodLink RX4 30 yX4_codeAt, Cond.instanceMethod yX4_codeAt, Cond.selects RX4 yX4_codeAt yX4_codeAt, Cond.code yX4_codeAt cX4_codeAt 2 (some .int), Cond.methodLink RX4 34 yX4_stageAfter, Cond.static yX4_stageAfter, Cond.code yX4_stageAfter cX4_stageAfter 2 (some .int), Cond.methodLink RX4 38 yX4_isLetter, Cond.static yX4_isLetter, Cond.code yX4_isLetter cX4_isLetter 1 (some .boolean), Cond.methodLink RX4 42 yX4_isTimes, Cond.static yX4_isTimes, Cond.code yX4_isTimes cX4_isTimes 1 (some .boolean), Cond.methodLink RL 132 yX6_firstError, Cond.instanceMethod yX6_firstError, Cond.selects RX6 yX6_firstError yX6_firstError, Cond.code yX6_firstError cX6_firstError 1 (some .int), Cond.fieldLink RX6 120 "HiddenPeriodsModel" "at" "I", Cond.methodLink RX6 139 yX6_readsAll]
def wsL_law0_r23 : List Cond := [Cond.instanceMethod yX6_readsAll, Cond.selects RX6 yX6_readsAll yX6_readsAll, Cond.code yX6_readsAll cX6_readsAll 1 none, Cond.fieldLink RX6 123 "HiddenPeriodsModel" "isWell" "Z", Cond.fieldLink RX6 130 "HiddenPeriodsModel" "readMany" "I", Cond.methodLink RX6 127 yX6_letter, Cond.instanceMethod yX6_letter, Cond.selects RX6 yX6_letter yX6_letter, Cond.code yX6_letter cX6_letter 1 (some .int), Cond.methodLink RX6 136 yX6_readsGroup, Cond.instanceMethod yX6_readsGroup, Cond.selects RX6 yX6_readsGroup yX6_readsGroup, Cond.code yX6_readsGroup cX6_readsGroup 5 none, Cond.methodLink RX6 133 yX6_readsLetter, Cond.instanceMethod yX6_readsLetter, Cond.selects RX6 yX6_readsLetter yX6_readsLetter, Cond.code yX6_readsLetter cX6_readsLetter 1 none, Cond.methodLink RL 133 yL_putAll, Cond.static yL_putAll, Cond.codeWith yL_putAll cL_putAll 3 (some .int) [(0, 8, 11, 13), (0, 8, 14, 15)], Cond.methodLink RL 45 yX5_putAll, Cond.instanceMethod yX5_putAll, Cond.selects RX5 yX5_putAll yX5_putAll, Cond.code yX5_putAll cX5_putAll 3 (some .int)]
def wsL_law0_r24 : List Cond := [Cond.methodLink RX5 182 yX4_isComplete, Cond.instanceMethod yX4_isComplete, Cond.selects RX4 yX4_isComplete yX4_isComplete, Cond.code yX4_isComplete cX4_isComplete 3 (some .boolean), Cond.methodLink RX5 188 yX4_unfold, Cond.instanceMethod yX4_unfold, Cond.selects RX4 yX4_unfold yX4_unfold, Cond.code yX4_unfold cX4_unfold 5 (some .int), Cond.methodLink RX4 45 yX4_repeat, Cond.instanceMethod yX4_repeat, Cond.selects RX4 yX4_repeat yX4_repeat, Cond.code yX4_repeat cX4_repeat 7 (some .int), Cond.methodLink RX4 49 yX4_unfoldedAt, Cond.instanceMethod yX4_unfoldedAt, Cond.selects RX4 yX4_unfoldedAt yX4_unfoldedAt, Cond.code yX4_unfoldedAt cX4_unfoldedAt 2 (some .int), Cond.methodLink RX5 191 yX4_unfoldedAt, Cond.methodLink RL 136 yX6_putAll, Cond.instanceMethod yX6_putAll, Cond.selects RX6 yX6_putAll yX6_putAll, Cond.code yX6_putAll cX6_putAll 2 (some .int), Cond.methodLink RL 137 yL_undo, Cond.static yL_undo, Cond.codeWith yL_undo cL_undo 3 (some .int) [(0, 8, 11, 15)]]
def wsL_law0_r25 : List Cond := [Cond.methodLink RL 49 yX5_undo, Cond.instanceMethod yX5_undo, Cond.selects RX5 yX5_undo yX5_undo, Cond.code yX5_undo cX5_undo 1 (some .int), Cond.methodLink RX5 199 yX1_restore, Cond.instanceMethod yX1_restore, Cond.selects RX1 yX1_restore yX1_restore, Cond.code yX1_restore cX1_restore 3 none, Cond.methodLink RL 139 yX6_undo, Cond.instanceMethod yX6_undo, Cond.selects RX6 yX6_undo yX6_undo, Cond.code yX6_undo cX6_undo 2 (some .int), Cond.methodLink RL 140 yL_sign, Cond.static yL_sign, Cond.codeWith yL_sign cL_sign 4 (some .int) [(0, 9, 12, 13)], Cond.methodLink RL 52 yX5_sign, Cond.instanceMethod yX5_sign, Cond.selects RX5 yX5_sign yX5_sign, Cond.code yX5_sign cX5_sign 2 (some .int), Cond.methodLink RL 142 yX6_sign, Cond.instanceMethod yX6_sign, Cond.selects RX6 yX6_sign yX6_sign, Cond.code yX6_sign cX6_sign 2 (some .int), Cond.methodLink RL 143 yL_period]
def wsL_law0_r26 : List Cond := [Cond.static yL_period, Cond.codeWith yL_period cL_period 5 (some .int) [(0, 10, 13, 21), (0, 10, 17, 13)], Cond.methodLink RL 55 yX5_period, Cond.instanceMethod yX5_period, Cond.selects RX5 yX5_period yX5_period, Cond.code yX5_period cX5_period 3 (some .int), Cond.methodLink RX5 206 yX5_periodNumber, Cond.instanceMethod yX5_periodNumber, Cond.selects RX5 yX5_periodNumber yX5_periodNumber, Cond.code yX5_periodNumber cX5_periodNumber 3 (some .int), Cond.methodLink RX5 209 yX2_tenthsAt, Cond.methodLink RX5 324 yX2_phaseAt, Cond.methodLink RX5 311 yX3_placesToldBy, Cond.instanceMethod yX3_placesToldBy, Cond.selects RX3 yX3_placesToldBy yX3_placesToldBy, Cond.code yX3_placesToldBy cX3_placesToldBy 6 (some .int), Cond.methodLink RX5 219 yX0_takeKept, Cond.methodLink RX5 315 yX2_commonSign, Cond.instanceMethod yX2_commonSign, Cond.selects RX2 yX2_commonSign yX2_commonSign, Cond.code yX2_commonSign cX2_commonSign 5 (some .int), Cond.methodLink RX2 78 yX2_timesInWindow, Cond.instanceMethod yX2_timesInWindow, Cond.selects RX2 yX2_timesInWindow yX2_timesInWindow]
def wsL_law0_r27 : List Cond := [Cond.code yX2_timesInWindow cX2_timesInWindow 5 (some .int), Cond.methodLink RX2 72 yX2_windowEnd, Cond.methodLink RX2 75 yX2_signAt, Cond.methodLink RX5 318 yX2_timesInWindow, Cond.methodLink RX5 330 yX0_strongClasses, Cond.instanceMethod yX0_strongClasses, Cond.selects RX0 yX0_strongClasses yX0_strongClasses, Cond.code yX0_strongClasses cX0_strongClasses 4 (some .int), Cond.methodLink RX0 72 yX0_strongSignOf, Cond.methodLink RL 145 yX6_period, Cond.instanceMethod yX6_period, Cond.selects RX6 yX6_period yX6_period, Cond.code yX6_period cX6_period 3 (some .int), Cond.methodLink RX6 152 yX6_tellsPeriod, Cond.instanceMethod yX6_tellsPeriod, Cond.selects RX6 yX6_tellsPeriod yX6_tellsPeriod, Cond.code yX6_tellsPeriod cX6_tellsPeriod 3 (some .int), Cond.methodLink RX6 142 yX6_mostCommon, Cond.instanceMethod yX6_mostCommon, Cond.selects RX6 yX6_mostCommon yX6_mostCommon, Cond.code yX6_mostCommon cX6_mostCommon 7 (some .int), Cond.methodLink RX6 146 yX6_strongMany, Cond.instanceMethod yX6_strongMany, Cond.selects RX6 yX6_strongMany yX6_strongMany]
def wsL_law0_r28 : List Cond := [Cond.code yX6_strongMany cX6_strongMany 4 (some .int), Cond.methodLink RX6 149 yX6_toldBy, Cond.instanceMethod yX6_toldBy, Cond.selects RX6 yX6_toldBy yX6_toldBy, Cond.code yX6_toldBy cX6_toldBy 4 (some .int), Cond.methodLink RL 146 yL_remainder, Cond.static yL_remainder, Cond.codeWith yL_remainder cL_remainder 6 (some .int) [(0, 12, 15, 21), (0, 12, 19, 13)], Cond.methodLink RL 58 yX5_remainder, Cond.instanceMethod yX5_remainder, Cond.selects RX5 yX5_remainder yX5_remainder, Cond.code yX5_remainder cX5_remainder 4 (some .int), Cond.methodLink RX5 223 yX0_lookedAt, Cond.instanceMethod yX0_lookedAt, Cond.selects RX0 yX0_lookedAt yX0_lookedAt, Cond.code yX0_lookedAt cX0_lookedAt 3 (some .int), Cond.methodLink RL 148 yX6_remainder, Cond.instanceMethod yX6_remainder, Cond.selects RX6 yX6_remainder yX6_remainder, Cond.code yX6_remainder cX6_remainder 4 (some .int), Cond.methodLink RX6 155 yX6_tellsRemainder, Cond.instanceMethod yX6_tellsRemainder, Cond.selects RX6 yX6_tellsRemainder yX6_tellsRemainder, Cond.code yX6_tellsRemainder cX6_tellsRemainder 4 (some .int)]
def wsL_law0_r29 : List Cond := [Cond.methodLink RL 149 yL_told, Cond.static yL_told, Cond.codeWith yL_told cL_told 5 (some .int) [(0, 10, 13, 21), (0, 10, 17, 13)], Cond.methodLink RL 61 yX5_told, Cond.instanceMethod yX5_told, Cond.selects RX5 yX5_told yX5_told, Cond.code yX5_told cX5_told 3 (some .int), Cond.methodLink RX5 228 yX5_toldNumber, Cond.instanceMethod yX5_toldNumber, Cond.selects RX5 yX5_toldNumber yX5_toldNumber, Cond.code yX5_toldNumber cX5_toldNumber 3 (some .int), Cond.methodLink RX5 333 yX3_tellerAt, Cond.methodLink RX5 336 yX3_isExplained, Cond.instanceMethod yX3_isExplained, Cond.selects RX3 yX3_isExplained yX3_isExplained, Cond.code yX3_isExplained cX3_isExplained 4 (some .boolean), Cond.methodLink RX3 85 yX3_signAt, Cond.methodLink RX3 88 yX2_signAt, Cond.methodLink RL 151 yX6_told, Cond.instanceMethod yX6_told, Cond.selects RX6 yX6_told yX6_told, Cond.code yX6_told cX6_told 3 (some .int), Cond.methodLink RX6 158 yX6_tellsPlace, Cond.instanceMethod yX6_tellsPlace]
def wsL_law0_r30 : List Cond := [Cond.selects RX6 yX6_tellsPlace yX6_tellsPlace, Cond.code yX6_tellsPlace cX6_tellsPlace 3 (some .int), Cond.methodLink RL 152 yL_count, Cond.static yL_count, Cond.codeWith yL_count cL_count 4 (some .int) [(0, 9, 12, 13)], Cond.methodLink RL 64 yX5_count, Cond.instanceMethod yX5_count, Cond.selects RX5 yX5_count yX5_count, Cond.code yX5_count cX5_count 2 (some .int), Cond.methodLink RX5 233 yX5_number, Cond.instanceMethod yX5_number, Cond.selects RX5 yX5_number yX5_number, Cond.code yX5_number cX5_number 2 (some .int), Cond.methodLink RX5 305 yX2_windowPlaces, Cond.methodLink RX5 308 yX3_explained, Cond.instanceMethod yX3_explained, Cond.selects RX3 yX3_explained yX3_explained, Cond.code yX3_explained cX3_explained 5 (some .int), Cond.methodLink RX3 89 yX3_isExplained, Cond.methodLink RX5 321 yX3_longestStretch, Cond.instanceMethod yX3_longestStretch, Cond.selects RX3 yX3_longestStretch yX3_longestStretch, Cond.code yX3_longestStretch cX3_longestStretch 6 (some .int), Cond.methodLink RX3 93 Lib.Math.max.name]
def wsL_law0_r31 : List Cond := [Cond.methodLink RL 154 yX6_count, Cond.instanceMethod yX6_count, Cond.selects RX6 yX6_count yX6_count, Cond.code yX6_count cX6_count 2 (some .int), Cond.methodLink RX6 164 yX6_tellsCount, Cond.instanceMethod yX6_tellsCount, Cond.selects RX6 yX6_tellsCount yX6_tellsCount, Cond.code yX6_tellsCount cX6_tellsCount 2 (some .int), Cond.methodLink RX6 161 yX6_overWindow, Cond.instanceMethod yX6_overWindow, Cond.selects RX6 yX6_overWindow yX6_overWindow, Cond.code yX6_overWindow cX6_overWindow 6 (some .int), Cond.methodLink RL 155 yL_setting, Cond.static yL_setting, Cond.codeWith yL_setting cL_setting 4 (some .int) [(0, 9, 12, 21)], Cond.methodLink RL 67 yX5_setting, Cond.instanceMethod yX5_setting, Cond.selects RX5 yX5_setting yX5_setting, Cond.code yX5_setting cX5_setting 2 (some .int), Cond.methodLink RL 157 yX6_setting, Cond.instanceMethod yX6_setting, Cond.selects RX6 yX6_setting yX6_setting, Cond.code yX6_setting cX6_setting 2 (some .int), Cond.methodLink RL 158 yL_explains]
def wsL_law0_r32 : List Cond := [Cond.static yL_explains, Cond.codeWith yL_explains cL_explains 5 (some .int) [(0, 10, 13, 13)], Cond.methodLink RL 70 yX5_explains, Cond.instanceMethod yX5_explains, Cond.selects RX5 yX5_explains yX5_explains, Cond.code yX5_explains cX5_explains 3 (some .int), Cond.methodLink RL 160 yX6_explains, Cond.instanceMethod yX6_explains, Cond.selects RX6 yX6_explains yX6_explains, Cond.code yX6_explains cX6_explains 3 (some .int), Cond.methodLink RL 161 yL_best, Cond.static yL_best, Cond.codeWith yL_best cL_best 5 (some .int) [(0, 10, 13, 13)], Cond.methodLink RL 73 yX5_best, Cond.instanceMethod yX5_best, Cond.selects RX5 yX5_best yX5_best, Cond.code yX5_best cX5_best 3 (some .int), Cond.methodLink RL 163 yX6_best, Cond.instanceMethod yX6_best, Cond.selects RX6 yX6_best yX6_best, Cond.code yX6_best cX6_best 3 (some .int), Cond.methodLink RL 164 yL_bestPhase, Cond.static yL_bestPhase, Cond.codeWith yL_bestPhase cL_bestPhase 4 (some .int) [(0, 9, 12, 13)]]
def wsL_law0_r33 : List Cond := [Cond.methodLink RL 76 yX5_bestPhase, Cond.instanceMethod yX5_bestPhase, Cond.selects RX5 yX5_bestPhase yX5_bestPhase, Cond.code yX5_bestPhase cX5_bestPhase 6 (some .int), Cond.methodLink RL 166 yX6_bestPhase, Cond.instanceMethod yX6_bestPhase, Cond.selects RX6 yX6_bestPhase yX6_bestPhase, Cond.code yX6_bestPhase cX6_bestPhase 2 (some .int), Cond.methodLink RX6 167 yX6_phaseFor, Cond.instanceMethod yX6_phaseFor, Cond.selects RX6 yX6_phaseFor yX6_phaseFor, Cond.code yX6_phaseFor cX6_phaseFor 6 (some .int), Cond.methodLink RL 167 yL_bestWindow, Cond.static yL_bestWindow, Cond.codeWith yL_bestWindow cL_bestWindow 5 (some .int) [(0, 10, 13, 13)], Cond.methodLink RL 79 yX5_bestWindow, Cond.instanceMethod yX5_bestWindow, Cond.selects RX5 yX5_bestWindow yX5_bestWindow, Cond.code yX5_bestWindow cX5_bestWindow 8 (some .int), Cond.methodLink RX5 247 yX0_takeStretch, Cond.methodLink RL 169 yX6_bestWindow, Cond.instanceMethod yX6_bestWindow, Cond.selects RX6 yX6_bestWindow yX6_bestWindow, Cond.code yX6_bestWindow cX6_bestWindow 3 (some .int)]
def wsL_law0_r34 : List Cond := [Cond.methodLink RX6 170 yX6_windowFor, Cond.instanceMethod yX6_windowFor, Cond.selects RX6 yX6_windowFor yX6_windowFor, Cond.code yX6_windowFor cX6_windowFor 7 (some .int), Cond.methodLink RL 170 yX5_share, Cond.instanceMethod yX5_share, Cond.selects RX5 yX5_share yX5_share, Cond.code yX5_share cX5_share 1 (some .double), Cond.methodLink RX5 251 yX5_shareTold, Cond.instanceMethod yX5_shareTold, Cond.selects RX5 yX5_shareTold yX5_shareTold, Cond.code yX5_shareTold cX5_shareTold 2 (some .double), Cond.methodLink RL 174 yX6_share, Cond.instanceMethod yX6_share, Cond.selects RX6 yX6_share yX6_share, Cond.code yX6_share cX6_share 1 (some .double), Cond.methodLink RX6 173 yX6_shareNow, Cond.instanceMethod yX6_shareNow, Cond.selects RX6 yX6_shareNow yX6_shareNow, Cond.code yX6_shareNow cX6_shareNow 2 (some .double), Cond.methodLink RL 175 yX5_digest, Cond.instanceMethod yX5_digest, Cond.selects RX5 yX5_digest yX5_digest, Cond.code yX5_digest cX5_digest 3 (some .long)]
def wsL_law0_r35 : List Cond := [Cond.constantLong RX5 255 (2953), Cond.methodLink RX5 257 yX5_withNumbers, Cond.instanceMethod yX5_withNumbers, Cond.selects RX5 yX5_withNumbers yX5_withNumbers, Cond.code yX5_withNumbers cX5_withNumbers 6 (some .long), Cond.methodLink RX5 273 yX5_with, Cond.static yX5_with, Cond.code yX5_with cX5_with 4 (some .long), Cond.constantLong RX5 290 (31), Cond.methodLink RX5 261 yX5_withRow, Cond.instanceMethod yX5_withRow, Cond.selects RX5 yX5_withRow yX5_withRow, Cond.code yX5_withRow cX5_withRow 6 (some .long), Cond.methodLink RX5 264 yX5_withPeriods, Cond.instanceMethod yX5_withPeriods, Cond.selects RX5 yX5_withPeriods yX5_withPeriods, Cond.code yX5_withPeriods cX5_withPeriods 7 (some .long), Cond.methodLink RX5 292 yX5_withCounts, Cond.instanceMethod yX5_withCounts, Cond.selects RX5 yX5_withCounts yX5_withCounts, Cond.code yX5_withCounts cX5_withCounts 9 (some .long), Cond.methodLink RX5 267 yX5_withTold, Cond.instanceMethod yX5_withTold, Cond.selects RX5 yX5_withTold yX5_withTold]
def wsL_law0_r36 : List Cond := [Cond.code yX5_withTold cX5_withTold 6 (some .long), Cond.methodLink RX5 270 yX5_best, Cond.methodLink RX5 277 yX5_bestPhase, Cond.methodLink RX5 280 yX5_bestWindow, Cond.methodLink RX5 283 yX5_bitsOf, Cond.static yX5_bitsOf, Cond.code yX5_bitsOf cX5_bitsOf 7 (some .long), Cond.constantLong RX5 299 (1023), Cond.constantDouble RX5 301 (4611686018427387904), Cond.constantDouble RX5 303 (4841369599423283200), Cond.methodLink RX5 287 yX5_withText, Cond.instanceMethod yX5_withText, Cond.selects RX5 yX5_withText yX5_withText, Cond.code yX5_withText cX5_withText 6 (some .long), Cond.methodLink RX5 296 yX4_codeAt, Cond.methodLink RL 179 yX6_digest, Cond.instanceMethod yX6_digest, Cond.selects RX6 yX6_digest yX6_digest, Cond.code yX6_digest cX6_digest 2 (some .long), Cond.constantLong RX6 187 (2953), Cond.fieldLink RX6 179 "HiddenPeriodsModel" "hash" "J", Cond.methodLink RX6 183 yX6_hashes, Cond.instanceMethod yX6_hashes, Cond.selects RX6 yX6_hashes yX6_hashes]
def wsL_law0_r37 : List Cond := [Cond.code yX6_hashes cX6_hashes 3 none, Cond.constantLong RX6 177 (31), Cond.methodLink RX6 189 yX6_hashesPeriods, Cond.instanceMethod yX6_hashesPeriods, Cond.selects RX6 yX6_hashesPeriods yX6_hashesPeriods, Cond.code yX6_hashesPeriods cX6_hashesPeriods 3 none, Cond.methodLink RX6 192 yJxe99ae_doubleToLongBits_ccdee, Cond.static yJxe99ae_doubleToLongBits_ccdee, Cond.initialized RJxe99ae, Cond.code yJxe99ae_doubleToLongBits_ccdee cJxe99ae_doubleToLongBits_ccdee 2 (some .long), Cond.methodLink RJxe99ae 134 ⟨"java/lang/Double", "doubleToRawLongBits", "(D)J"⟩, Cond.native ⟨"java/lang/Double", "doubleToRawLongBits", "(D)J"⟩, Cond.static ⟨"java/lang/Double", "doubleToRawLongBits", "(D)J"⟩, Cond.initialized "java/lang/Double", Cond.constantLong RJxe99ae 137 (9221120237041090560), Cond.methodLink RJxe99ae 122 yJxe99ae_isNaN_b9ae7, Cond.static yJxe99ae_isNaN_b9ae7, Cond.code yJxe99ae_isNaN_b9ae7 cJxe99ae_isNaN_b9ae7 2 (some .boolean)]
def wsL_law0 : List Cond := (wsL_law0_r1 ++ (wsL_law0_r2 ++ (wsL_law0_r3 ++ (wsL_law0_r4 ++ (wsL_law0_r5 ++ (wsL_law0_r6 ++ (wsL_law0_r7 ++ (wsL_law0_r8 ++ (wsL_law0_r9 ++ (wsL_law0_r10 ++ (wsL_law0_r11 ++ (wsL_law0_r12 ++ (wsL_law0_r13 ++ (wsL_law0_r14 ++ (wsL_law0_r15 ++ (wsL_law0_r16 ++ (wsL_law0_r17 ++ (wsL_law0_r18 ++ (wsL_law0_r19 ++ (wsL_law0_r20 ++ (wsL_law0_r21 ++ (wsL_law0_r22 ++ (wsL_law0_r23 ++ (wsL_law0_r24 ++ (wsL_law0_r25 ++ (wsL_law0_r26 ++ (wsL_law0_r27 ++ (wsL_law0_r28 ++ (wsL_law0_r29 ++ (wsL_law0_r30 ++ (wsL_law0_r31 ++ (wsL_law0_r32 ++ (wsL_law0_r33 ++ (wsL_law0_r34 ++ (wsL_law0_r35 ++ (wsL_law0_r36 ++ wsL_law0_r37)))))))))))))))))))))))))))))))))))) ++ wsX50 ++ wsX60 ++ wsX20 ++ wsX10 ++ wsX40 ++ wsX00 ++ wsX30 ++ ([] : List Cond)
def wsL_law : List Cond := wsL_law0 ++ (vx_atS RX5 52 "java/lang/IllegalArgumentException" ["java/lang/RuntimeException", "java/lang/Exception"]).filter goodWord ++ (vx_atS RX5 63 "java/lang/IllegalStateException" ["java/lang/RuntimeException", "java/lang/Exception"]).filter goodWord ++ (vx_atS RX5 79 "java/lang/IndexOutOfBoundsException" ["java/lang/RuntimeException", "java/lang/Exception"]).filter goodWord
set_option maxRecDepth 20000 in
theorem wsL_law0_r1_in : ∀ w ∈ wsL_law0_r1, w ∈ lw_tbl := fun w h => (goodIn_p wsL_law0_r1 [77, 80] (by decide +kernel) (by decide +kernel) w h).1
set_option maxRecDepth 20000 in
theorem wsL_law0_r2_in : ∀ w ∈ wsL_law0_r2, w ∈ lw_tbl := fun w h => (goodIn_p wsL_law0_r2 [85, 122] (by decide +kernel) (by decide +kernel) w h).1
set_option maxRecDepth 20000 in
theorem wsL_law0_r3_in : ∀ w ∈ wsL_law0_r3, w ∈ lw_tbl := fun w h => (goodIn_p wsL_law0_r3 [142, 159, 173, 846] (by decide +kernel) (by decide +kernel) w h).1
set_option maxRecDepth 20000 in
theorem wsL_law0_r4_in : ∀ w ∈ wsL_law0_r4, w ∈ lw_tbl := fun w h => (goodIn_p wsL_law0_r4 [583, 586, 479] (by decide +kernel) (by decide +kernel) w h).1
set_option maxRecDepth 20000 in
theorem wsL_law0_r5_in : ∀ w ∈ wsL_law0_r5, w ∈ lw_tbl := fun w h => (goodIn_p wsL_law0_r5 [208, 222, 212, 216, 219] (by decide +kernel) (by decide +kernel) w h).1
set_option maxRecDepth 20000 in
theorem wsL_law0_r6_in : ∀ w ∈ wsL_law0_r6, w ∈ lw_tbl := fun w h => (goodIn_p wsL_law0_r6 [607, 306, 901, 904, 908] (by decide +kernel) (by decide +kernel) w h).1
set_option maxRecDepth 20000 in
theorem wsL_law0_r7_in : ∀ w ∈ wsL_law0_r7, w ∈ lw_tbl := fun w h => (goodIn_p wsL_law0_r7 [912, 897, 615, 619, 283] (by decide +kernel) (by decide +kernel) w h).1
set_option maxRecDepth 20000 in
theorem wsL_law0_r8_in : ∀ w ∈ wsL_law0_r8, w ∈ lw_tbl := fun w h => (goodIn_p wsL_law0_r8 [336, 916, 642, 268, 920] (by decide +kernel) (by decide +kernel) w h).1
set_option maxRecDepth 20000 in
theorem wsL_law0_r9_in : ∀ w ∈ wsL_law0_r9, w ∈ lw_tbl := fun w h => (goodIn_p wsL_law0_r9 [651, 476, 656, 279, 924, 927] (by decide +kernel) (by decide +kernel) w h).1
set_option maxRecDepth 20000 in
theorem wsL_law0_r10_in : ∀ w ∈ wsL_law0_r10, w ∈ lw_tbl := fun w h => (goodIn_p wsL_law0_r10 [664, 667, 672, 676, 245, 248] (by decide +kernel) (by decide +kernel) w h).1
set_option maxRecDepth 20000 in
theorem wsL_law0_r11_in : ∀ w ∈ wsL_law0_r11, w ∈ lw_tbl := fun w h => (goodIn_p wsL_law0_r11 [252, 683, 931, 934, 938, 942, 946] (by decide +kernel) (by decide +kernel) w h).1
set_option maxRecDepth 20000 in
theorem wsL_law0_r12_in : ∀ w ∈ wsL_law0_r12, w ∈ lw_tbl := fun w h => (goodIn_p wsL_law0_r12 [950, 690, 694, 699, 954] (by decide +kernel) (by decide +kernel) w h).1
set_option maxRecDepth 20000 in
theorem wsL_law0_r13_in : ∀ w ∈ wsL_law0_r13, w ∈ lw_tbl := fun w h => (goodIn_p wsL_law0_r13 [706, 473, 551, 256, 260] (by decide +kernel) (by decide +kernel) w h).1
set_option maxRecDepth 20000 in
theorem wsL_law0_r14_in : ∀ w ∈ wsL_law0_r14, w ∈ lw_tbl := fun w h => (goodIn_p wsL_law0_r14 [264, 272, 233, 276, 443, 291] (by decide +kernel) (by decide +kernel) w h).1
set_option maxRecDepth 20000 in
theorem wsL_law0_r15_in : ∀ w ∈ wsL_law0_r15, w ∈ lw_tbl := fun w h => (goodIn_p wsL_law0_r15 [295, 958, 962, 966, 970, 974] (by decide +kernel) (by decide +kernel) w h).1
set_option maxRecDepth 20000 in
theorem wsL_law0_r16_in : ∀ w ∈ wsL_law0_r16, w ∈ lw_tbl := fun w h => (goodIn_p wsL_law0_r16 [978, 982, 985, 989, 204, 230] (by decide +kernel) (by decide +kernel) w h).1
set_option maxRecDepth 20000 in
theorem wsL_law0_r17_in : ∀ w ∈ wsL_law0_r17, w ∈ lw_tbl := fun w h => (goodIn_p wsL_law0_r17 [237, 241, 287, 299, 303] (by decide +kernel) (by decide +kernel) w h).1
set_option maxRecDepth 20000 in
theorem wsL_law0_r18_in : ∀ w ∈ wsL_law0_r18, w ∈ lw_tbl := fun w h => (goodIn_p wsL_law0_r18 [310, 316, 325, 331] (by decide +kernel) (by decide +kernel) w h).1
set_option maxRecDepth 20000 in
theorem wsL_law0_r19_in : ∀ w ∈ wsL_law0_r19, w ∈ lw_tbl := fun w h => (goodIn_p wsL_law0_r19 [993, 997, 1001, 1005, 1009, 1013] (by decide +kernel) (by decide +kernel) w h).1
set_option maxRecDepth 20000 in
theorem wsL_law0_r20_in : ∀ w ∈ wsL_law0_r20, w ∈ lw_tbl := fun w h => (goodIn_p wsL_law0_r20 [714, 718, 423, 723, 1017] (by decide +kernel) (by decide +kernel) w h).1
set_option maxRecDepth 20000 in
theorem wsL_law0_r21_in : ∀ w ∈ wsL_law0_r21, w ∈ lw_tbl := fun w h => (goodIn_p wsL_law0_r21 [730, 736, 1021, 341, 1025] (by decide +kernel) (by decide +kernel) w h).1
set_option maxRecDepth 20000 in
theorem wsL_law0_r22_in : ∀ w ∈ wsL_law0_r22, w ∈ lw_tbl := fun w h => (goodIn_p wsL_law0_r22 [345, 349, 353, 357, 360, 363, 1029] (by decide +kernel) (by decide +kernel) w h).1
set_option maxRecDepth 20000 in
theorem wsL_law0_r23_in : ∀ w ∈ wsL_law0_r23, w ∈ lw_tbl := fun w h => (goodIn_p wsL_law0_r23 [1033, 1037, 1041, 1045, 744] (by decide +kernel) (by decide +kernel) w h).1
set_option maxRecDepth 20000 in
theorem wsL_law0_r24_in : ∀ w ∈ wsL_law0_r24, w ∈ lw_tbl := fun w h => (goodIn_p wsL_law0_r24 [748, 753, 757, 761, 1049] (by decide +kernel) (by decide +kernel) w h).1
set_option maxRecDepth 20000 in
theorem wsL_law0_r25_in : ∀ w ∈ wsL_law0_r25, w ∈ lw_tbl := fun w h => (goodIn_p wsL_law0_r25 [769, 774, 1053, 781, 1057] (by decide +kernel) (by decide +kernel) w h).1
set_option maxRecDepth 20000 in
theorem wsL_law0_r26_in : ∀ w ∈ wsL_law0_r26, w ∈ lw_tbl := fun w h => (goodIn_p wsL_law0_r26 [789, 435, 399, 403] (by decide +kernel) (by decide +kernel) w h).1
set_option maxRecDepth 20000 in
theorem wsL_law0_r27_in : ∀ w ∈ wsL_law0_r27, w ∈ lw_tbl := fun w h => (goodIn_p wsL_law0_r27 [407, 447, 1061, 1065, 1069] (by decide +kernel) (by decide +kernel) w h).1
set_option maxRecDepth 20000 in
theorem wsL_law0_r28_in : ∀ w ∈ wsL_law0_r28, w ∈ lw_tbl := fun w h => (goodIn_p wsL_law0_r28 [1073, 1077, 797, 456, 1081, 1085] (by decide +kernel) (by decide +kernel) w h).1
set_option maxRecDepth 20000 in
theorem wsL_law0_r29_in : ∀ w ∈ wsL_law0_r29, w ∈ lw_tbl := fun w h => (goodIn_p wsL_law0_r29 [806, 464, 380, 1089] (by decide +kernel) (by decide +kernel) w h).1
set_option maxRecDepth 20000 in
theorem wsL_law0_r30_in : ∀ w ∈ wsL_law0_r30, w ∈ lw_tbl := fun w h => (goodIn_p wsL_law0_r30 [1093, 814, 395, 376, 414] (by decide +kernel) (by decide +kernel) w h).1
set_option maxRecDepth 20000 in
theorem wsL_law0_r31_in : ∀ w ∈ wsL_law0_r31, w ∈ lw_tbl := fun w h => (goodIn_p wsL_law0_r31 [1097, 1101, 1105, 822, 1109] (by decide +kernel) (by decide +kernel) w h).1
set_option maxRecDepth 20000 in
theorem wsL_law0_r32_in : ∀ w ∈ wsL_law0_r32, w ∈ lw_tbl := fun w h => (goodIn_p wsL_law0_r32 [829, 1113, 470, 1117] (by decide +kernel) (by decide +kernel) w h).1
set_option maxRecDepth 20000 in
theorem wsL_law0_r33_in : ∀ w ∈ wsL_law0_r33, w ∈ lw_tbl := fun w h => (goodIn_p wsL_law0_r33 [556, 1121, 1125, 561, 1129] (by decide +kernel) (by decide +kernel) w h).1
set_option maxRecDepth 20000 in
theorem wsL_law0_r34_in : ∀ w ∈ wsL_law0_r34, w ∈ lw_tbl := fun w h => (goodIn_p wsL_law0_r34 [1133, 367, 371, 1137, 1141, 386] (by decide +kernel) (by decide +kernel) w h).1
set_option maxRecDepth 20000 in
theorem wsL_law0_r35_in : ∀ w ∈ wsL_law0_r35, w ∈ lw_tbl := fun w h => (goodIn_p wsL_law0_r35 [391, 418, 427, 431, 452] (by decide +kernel) (by decide +kernel) w h).1
set_option maxRecDepth 20000 in
theorem wsL_law0_r36_in : ∀ w ∈ wsL_law0_r36, w ∈ lw_tbl := fun w h => (goodIn_p wsL_law0_r36 [460, 566, 573, 1145] (by decide +kernel) (by decide +kernel) w h).1
set_option maxRecDepth 20000 in
theorem wsL_law0_r37_in : ∀ w ∈ wsL_law0_r37, w ∈ lw_tbl := fun w h => (goodIn_p wsL_law0_r37 [1150, 1155, 1158, 1161] (by decide +kernel) (by decide +kernel) w h).1
set_option maxRecDepth 20000 in
theorem wsX50_in : ∀ w ∈ wsX50, w ∈ lw_tbl := by decide +kernel
set_option maxRecDepth 20000 in
theorem wsX60_in : ∀ w ∈ wsX60, w ∈ lw_tbl := by decide +kernel
set_option maxRecDepth 20000 in
theorem wsX20_in : ∀ w ∈ wsX20, w ∈ lw_tbl := by decide +kernel
set_option maxRecDepth 20000 in
theorem wsX10_in : ∀ w ∈ wsX10, w ∈ lw_tbl := by decide +kernel
set_option maxRecDepth 20000 in
theorem wsX40_in : ∀ w ∈ wsX40, w ∈ lw_tbl := by decide +kernel
set_option maxRecDepth 20000 in
theorem wsX00_in : ∀ w ∈ wsX00, w ∈ lw_tbl := by decide +kernel
set_option maxRecDepth 20000 in
theorem wsX30_in : ∀ w ∈ wsX30, w ∈ lw_tbl := by decide +kernel
set_option maxRecDepth 20000 in
theorem wsL_law_in0 : ∀ w ∈ wsL_law0, w ∈ lw_tbl := by
  unfold wsL_law0
  exact List.forall_mem_append.mpr ⟨List.forall_mem_append.mpr ⟨List.forall_mem_append.mpr ⟨List.forall_mem_append.mpr ⟨List.forall_mem_append.mpr ⟨List.forall_mem_append.mpr ⟨List.forall_mem_append.mpr ⟨List.forall_mem_append.mpr ⟨List.forall_mem_append.mpr ⟨wsL_law0_r1_in, List.forall_mem_append.mpr ⟨wsL_law0_r2_in, List.forall_mem_append.mpr ⟨wsL_law0_r3_in, List.forall_mem_append.mpr ⟨wsL_law0_r4_in, List.forall_mem_append.mpr ⟨wsL_law0_r5_in, List.forall_mem_append.mpr ⟨wsL_law0_r6_in, List.forall_mem_append.mpr ⟨wsL_law0_r7_in, List.forall_mem_append.mpr ⟨wsL_law0_r8_in, List.forall_mem_append.mpr ⟨wsL_law0_r9_in, List.forall_mem_append.mpr ⟨wsL_law0_r10_in, List.forall_mem_append.mpr ⟨wsL_law0_r11_in, List.forall_mem_append.mpr ⟨wsL_law0_r12_in, List.forall_mem_append.mpr ⟨wsL_law0_r13_in, List.forall_mem_append.mpr ⟨wsL_law0_r14_in, List.forall_mem_append.mpr ⟨wsL_law0_r15_in, List.forall_mem_append.mpr ⟨wsL_law0_r16_in, List.forall_mem_append.mpr ⟨wsL_law0_r17_in, List.forall_mem_append.mpr ⟨wsL_law0_r18_in, List.forall_mem_append.mpr ⟨wsL_law0_r19_in, List.forall_mem_append.mpr ⟨wsL_law0_r20_in, List.forall_mem_append.mpr ⟨wsL_law0_r21_in, List.forall_mem_append.mpr ⟨wsL_law0_r22_in, List.forall_mem_append.mpr ⟨wsL_law0_r23_in, List.forall_mem_append.mpr ⟨wsL_law0_r24_in, List.forall_mem_append.mpr ⟨wsL_law0_r25_in, List.forall_mem_append.mpr ⟨wsL_law0_r26_in, List.forall_mem_append.mpr ⟨wsL_law0_r27_in, List.forall_mem_append.mpr ⟨wsL_law0_r28_in, List.forall_mem_append.mpr ⟨wsL_law0_r29_in, List.forall_mem_append.mpr ⟨wsL_law0_r30_in, List.forall_mem_append.mpr ⟨wsL_law0_r31_in, List.forall_mem_append.mpr ⟨wsL_law0_r32_in, List.forall_mem_append.mpr ⟨wsL_law0_r33_in, List.forall_mem_append.mpr ⟨wsL_law0_r34_in, List.forall_mem_append.mpr ⟨wsL_law0_r35_in, List.forall_mem_append.mpr ⟨wsL_law0_r36_in, wsL_law0_r37_in⟩⟩⟩⟩⟩⟩⟩⟩⟩⟩⟩⟩⟩⟩⟩⟩⟩⟩⟩⟩⟩⟩⟩⟩⟩⟩⟩⟩⟩⟩⟩⟩⟩⟩⟩⟩, wsX50_in⟩, wsX60_in⟩, wsX20_in⟩, wsX10_in⟩, wsX40_in⟩, wsX00_in⟩, wsX30_in⟩, fun _ h => absurd h List.not_mem_nil⟩
theorem wsL_law_x0 : ∀ w ∈ (vx_atS RX5 52 "java/lang/IllegalArgumentException" ["java/lang/RuntimeException", "java/lang/Exception"]).filter goodWord, w ∈ lw_tbl := by decide +kernel
theorem wsL_law_x1 : ∀ w ∈ (vx_atS RX5 63 "java/lang/IllegalStateException" ["java/lang/RuntimeException", "java/lang/Exception"]).filter goodWord, w ∈ lw_tbl := by decide +kernel
theorem wsL_law_x2 : ∀ w ∈ (vx_atS RX5 79 "java/lang/IndexOutOfBoundsException" ["java/lang/RuntimeException", "java/lang/Exception"]).filter goodWord, w ∈ lw_tbl := by decide +kernel
theorem wsL_law_in : ∀ w ∈ wsL_law, w ∈ lw_tbl := fun w h => (List.mem_append.mp h).elim (fun h => (List.mem_append.mp h).elim (fun h => (List.mem_append.mp h).elim (fun h => wsL_law_in0 w h) (fun h => wsL_law_x0 w h)) (fun h => wsL_law_x1 w h)) (fun h => wsL_law_x2 w h)
theorem inlX0 : ∀ w ∈ wsX00, w ∈ wsL_law := fun _ h => List.mem_append_left _ (List.mem_append_left _ (List.mem_append_left _ (List.mem_append_left _ (List.mem_append_left _ (List.mem_append_right _ h)))))
theorem inX0 : ∀ w ∈ wsX00, w ∈ lw_tbl := fun w h => wsL_law_in w (inlX0 w h)
theorem inlX1 : ∀ w ∈ wsX10, w ∈ wsL_law := fun _ h => List.mem_append_left _ (List.mem_append_left _ (List.mem_append_left _ (List.mem_append_left _ (List.mem_append_left _ (List.mem_append_left _ (List.mem_append_left _ (List.mem_append_right _ h)))))))
theorem inX1 : ∀ w ∈ wsX10, w ∈ lw_tbl := fun w h => wsL_law_in w (inlX1 w h)
theorem inlX2 : ∀ w ∈ wsX20, w ∈ wsL_law := fun _ h => List.mem_append_left _ (List.mem_append_left _ (List.mem_append_left _ (List.mem_append_left _ (List.mem_append_left _ (List.mem_append_left _ (List.mem_append_left _ (List.mem_append_left _ (List.mem_append_right _ h))))))))
theorem inX2 : ∀ w ∈ wsX20, w ∈ lw_tbl := fun w h => wsL_law_in w (inlX2 w h)
theorem inlX3 : ∀ w ∈ wsX30, w ∈ wsL_law := fun _ h => List.mem_append_left _ (List.mem_append_left _ (List.mem_append_left _ (List.mem_append_left _ (List.mem_append_right _ h))))
theorem inX3 : ∀ w ∈ wsX30, w ∈ lw_tbl := fun w h => wsL_law_in w (inlX3 w h)
theorem inlX4 : ∀ w ∈ wsX40, w ∈ wsL_law := fun _ h => List.mem_append_left _ (List.mem_append_left _ (List.mem_append_left _ (List.mem_append_left _ (List.mem_append_left _ (List.mem_append_left _ (List.mem_append_right _ h))))))
theorem inX4 : ∀ w ∈ wsX40, w ∈ lw_tbl := fun w h => wsL_law_in w (inlX4 w h)
theorem inlX5 : ∀ w ∈ wsX50, w ∈ wsL_law := fun _ h => List.mem_append_left _ (List.mem_append_left _ (List.mem_append_left _ (List.mem_append_left _ (List.mem_append_left _ (List.mem_append_left _ (List.mem_append_left _ (List.mem_append_left _ (List.mem_append_left _ (List.mem_append_left _ (List.mem_append_right _ h))))))))))
theorem inX5 : ∀ w ∈ wsX50, w ∈ lw_tbl := fun w h => wsL_law_in w (inlX5 w h)
theorem inlX6 : ∀ w ∈ wsX60, w ∈ wsL_law := fun _ h => List.mem_append_left _ (List.mem_append_left _ (List.mem_append_left _ (List.mem_append_left _ (List.mem_append_left _ (List.mem_append_left _ (List.mem_append_left _ (List.mem_append_left _ (List.mem_append_left _ (List.mem_append_right _ h)))))))))
theorem inX6 : ∀ w ∈ wsX60, w ∈ lw_tbl := fun w h => wsL_law_in w (inlX6 w h)
theorem inJx145de : ∀ w ∈ wsJx145de0, w ∈ lw_tbl := by decide +kernel
theorem inJxb160c : ∀ w ∈ wsJxb160c0, w ∈ lw_tbl := by decide +kernel
theorem inJxe99ae : ∀ w ∈ wsJxe99ae0, w ∈ lw_tbl := by decide +kernel
theorem inJ9 : ∀ w ∈ wsJ90, w ∈ lw_tbl := by decide +kernel
theorem inJxd2413 : ∀ w ∈ wsJxd24130, w ∈ lw_tbl := by decide +kernel
theorem inJ0 : ∀ w ∈ wsJ00, w ∈ lw_tbl := by decide +kernel
theorem inJ10 : ∀ w ∈ wsJ100, w ∈ lw_tbl := by decide +kernel
theorem inJxfd54e : ∀ w ∈ wsJxfd54e0, w ∈ lw_tbl := by decide +kernel
theorem inJx3cf43 : ∀ w ∈ wsJx3cf430, w ∈ lw_tbl := by decide +kernel
theorem inJ7 : ∀ w ∈ wsJ70, w ∈ lw_tbl := by decide +kernel
theorem dX0_init_0 : decode cX0_init 0 = .ok (.aload_n 0, 1) := by decide +kernel
theorem dX0_init_1 : decode cX0_init 1 = .ok (.invokespecial 3, 3) := by decide +kernel
theorem dX0_init_4 : decode cX0_init 4 = .ok (.aload_n 0, 1) := by decide +kernel
theorem dX0_init_5 : decode cX0_init 5 = .ok (.sipush 160, 3) := by decide +kernel
theorem dX0_init_8 : decode cX0_init 8 = .ok (.newarray .int, 2) := by decide +kernel
theorem dX0_init_10 : decode cX0_init 10 = .ok (.putfield 9, 3) := by decide +kernel
theorem dX0_init_13 : decode cX0_init 13 = .ok (.return_, 1) := by decide +kernel
set_option maxRecDepth 20000 in
theorem ggX0_takeKept_X2_tenthsAt : GoodIn wsX0_takeKept wsX2_tenthsAt := goodIn_r _ [5, 6, 7, 8, 9, 57, 58, 59, 60, 61, 62, 63, 64] (by decide +kernel) (by decide +kernel)
set_option maxRecDepth 20000 in
theorem gX0_takeKept_X2_tenthsAt : GoodIn wsX0_takeKept (wsV RX0 15 RX2 yX2_tenthsAt wsX2_tenthsAt) := goodIn_app (goodIn_of _ (by decide +kernel)) ggX0_takeKept_X2_tenthsAt
set_option maxRecDepth 20000 in
theorem ggX0_takeKept_X2_phaseAt : GoodIn wsX0_takeKept wsX2_phaseAt := goodIn_r _ [13, 14, 7, 8, 9, 57, 58, 59, 60, 61, 62, 63, 64] (by decide +kernel) (by decide +kernel)
set_option maxRecDepth 20000 in
theorem gX0_takeKept_X2_phaseAt : GoodIn wsX0_takeKept (wsV RX0 21 RX2 yX2_phaseAt wsX2_phaseAt) := goodIn_app (goodIn_of _ (by decide +kernel)) ggX0_takeKept_X2_phaseAt
set_option maxRecDepth 20000 in
theorem ggX0_takeKept_X0_takeWindow : GoodIn wsX0_takeKept wsX0_takeWindow := goodIn_r _ [19, 20, 21, 22, 4, 23, 24, 25, 26, 27, 28, 29, 30, 31, 32, 33, 34, 35, 36, 37, 38, 39, 40, 18, 41, 42, 43, 44, 45, 46, 47, 48, 8, 49, 50, 51, 52, 53, 54, 55, 56, 57, 58, 59, 60, 61, 62, 63, 64, 65, 66] (by decide +kernel) (by decide +kernel)
set_option maxRecDepth 20000 in
theorem gX0_takeKept_X0_takeWindow : GoodIn wsX0_takeKept (wsV RX0 24 RX0 yX0_takeWindow wsX0_takeWindow) := goodIn_app (goodIn_of _ (by decide +kernel)) ggX0_takeKept_X0_takeWindow
theorem dX0_takeKept_0 : decode cX0_takeKept 0 = .ok (.aload_n 0, 1) := by decide +kernel
theorem dX0_takeKept_1 : decode cX0_takeKept 1 = .ok (.aload_n 1, 1) := by decide +kernel
theorem dX0_takeKept_2 : decode cX0_takeKept 2 = .ok (.aload_n 1, 1) := by decide +kernel
theorem dX0_takeKept_3 : decode cX0_takeKept 3 = .ok (.iload_n 2, 1) := by decide +kernel
theorem dX0_takeKept_4 : decode cX0_takeKept 4 = .ok (.invokevirtual 15, 3) := by decide +kernel
theorem dX0_takeKept_7 : decode cX0_takeKept 7 = .ok (.aload_n 1, 1) := by decide +kernel
theorem dX0_takeKept_8 : decode cX0_takeKept 8 = .ok (.iload_n 2, 1) := by decide +kernel
theorem dX0_takeKept_9 : decode cX0_takeKept 9 = .ok (.invokevirtual 21, 3) := by decide +kernel
theorem dX0_takeKept_12 : decode cX0_takeKept 12 = .ok (.invokevirtual 24, 3) := by decide +kernel
theorem dX0_takeKept_15 : decode cX0_takeKept 15 = .ok (.return_, 1) := by decide +kernel
set_option maxRecDepth 20000 in
theorem ggX0_takeWindow_X2_windowStart : GoodIn wsX0_takeWindow wsX2_windowStart := goodIn_r _ [5, 6, 7, 41, 42, 43, 44, 45, 46, 47, 48] (by decide +kernel) (by decide +kernel)
set_option maxRecDepth 20000 in
theorem gX0_takeWindow_X2_windowStart : GoodIn wsX0_takeWindow (wsV RX0 28 RX2 yX2_windowStart wsX2_windowStart) := goodIn_app (goodIn_of _ (by decide +kernel)) ggX0_takeWindow_X2_windowStart
set_option maxRecDepth 20000 in
theorem ggX0_takeWindow_X2_windowPlaces : GoodIn wsX0_takeWindow wsX2_windowPlaces := goodIn_r _ [11, 6, 12, 7, 13, 14, 15, 16, 17, 18, 19, 41, 42, 43, 44, 45, 46, 47, 48] (by decide +kernel) (by decide +kernel)
set_option maxRecDepth 20000 in
theorem gX0_takeWindow_X2_windowPlaces : GoodIn wsX0_takeWindow (wsV RX0 32 RX2 yX2_windowPlaces wsX2_windowPlaces) := goodIn_app (goodIn_of _ (by decide +kernel)) ggX0_takeWindow_X2_windowPlaces
set_option maxRecDepth 20000 in
theorem ggX0_takeWindow_X0_takeStretch : GoodIn wsX0_takeWindow wsX0_takeStretch := goodIn_r _ [24, 25, 26, 27, 28, 29, 30, 31, 32, 33, 34, 35, 36, 37, 38, 4, 39, 12, 40, 49, 50, 41, 42, 43, 44, 45, 46, 47, 48] (by decide +kernel) (by decide +kernel)
set_option maxRecDepth 20000 in
theorem gX0_takeWindow_X0_takeStretch : GoodIn wsX0_takeWindow (wsV RX0 35 RX0 yX0_takeStretch wsX0_takeStretch) := goodIn_app (goodIn_of _ (by decide +kernel)) ggX0_takeWindow_X0_takeStretch
theorem dX0_takeWindow_0 : decode cX0_takeWindow 0 = .ok (.aload_n 0, 1) := by decide +kernel
theorem dX0_takeWindow_1 : decode cX0_takeWindow 1 = .ok (.aload_n 1, 1) := by decide +kernel
theorem dX0_takeWindow_2 : decode cX0_takeWindow 2 = .ok (.iload_n 2, 1) := by decide +kernel
theorem dX0_takeWindow_3 : decode cX0_takeWindow 3 = .ok (.iload_n 3, 1) := by decide +kernel
theorem dX0_takeWindow_4 : decode cX0_takeWindow 4 = .ok (.aload_n 1, 1) := by decide +kernel
theorem dX0_takeWindow_5 : decode cX0_takeWindow 5 = .ok (.invokevirtual 28, 3) := by decide +kernel
theorem dX0_takeWindow_8 : decode cX0_takeWindow 8 = .ok (.aload_n 1, 1) := by decide +kernel
theorem dX0_takeWindow_9 : decode cX0_takeWindow 9 = .ok (.invokevirtual 32, 3) := by decide +kernel
theorem dX0_takeWindow_12 : decode cX0_takeWindow 12 = .ok (.invokevirtual 35, 3) := by decide +kernel
theorem dX0_takeWindow_15 : decode cX0_takeWindow 15 = .ok (.return_, 1) := by decide +kernel
set_option maxRecDepth 20000 in
theorem ggX0_takeStretch_J7_fill_53178 : GoodIn wsX0_takeStretch wsJ7_fill_53178 := goodIn_r _ [6] (by decide +kernel) (by decide +kernel)
set_option maxRecDepth 20000 in
theorem gX0_takeStretch_J7_fill_53178 : GoodIn wsX0_takeStretch (va_wsS RX0 39 yJ7_fill_53178 wsJ7_fill_53178) := goodIn_app (goodIn_of _ (by decide +kernel)) ggX0_takeStretch_J7_fill_53178
set_option maxRecDepth 20000 in
theorem ggX0_takeStretch_X5_classesOf : GoodIn wsX0_takeStretch wsX5_classesOf := goodIn_r _ [9] (by decide +kernel) (by decide +kernel)
set_option maxRecDepth 20000 in
theorem gX0_takeStretch_X5_classesOf_n45 : GoodIn wsX0_takeStretch (wsX5_classesOf) := ggX0_takeStretch_X5_classesOf
set_option maxRecDepth 20000 in
theorem ggX0_takeStretch_X5_classOf : GoodIn wsX0_takeStretch wsX5_classOf := goodIn_r _ [11] (by decide +kernel) (by decide +kernel)
set_option maxRecDepth 20000 in
theorem gX0_takeStretch_X5_classOf_n52 : GoodIn wsX0_takeStretch (wsX5_classOf) := ggX0_takeStretch_X5_classOf
set_option maxRecDepth 20000 in
theorem ggX0_takeStretch_X2_signAt : GoodIn wsX0_takeStretch wsX2_signAt := goodIn_r _ [16, 17, 18, 21, 22, 23, 24, 25, 26, 27, 28] (by decide +kernel) (by decide +kernel)
set_option maxRecDepth 20000 in
theorem gX0_takeStretch_X2_signAt : GoodIn wsX0_takeStretch (wsV RX0 56 RX2 yX2_signAt wsX2_signAt) := goodIn_app (goodIn_of _ (by decide +kernel)) ggX0_takeStretch_X2_signAt
theorem dX0_takeStretch_0 : decode cX0_takeStretch 0 = .ok (.aload_n 0, 1) := by decide +kernel
theorem dX0_takeStretch_1 : decode cX0_takeStretch 1 = .ok (.getfield 9, 3) := by decide +kernel
theorem dX0_takeStretch_4 : decode cX0_takeStretch 4 = .ok (.iconst 0, 1) := by decide +kernel
theorem dX0_takeStretch_5 : decode cX0_takeStretch 5 = .ok (.invokestatic 39, 3) := by decide +kernel
theorem dX0_takeStretch_8 : decode cX0_takeStretch 8 = .ok (.aload_n 0, 1) := by decide +kernel
theorem dX0_takeStretch_9 : decode cX0_takeStretch 9 = .ok (.iload_n 2, 1) := by decide +kernel
theorem dX0_takeStretch_10 : decode cX0_takeStretch 10 = .ok (.invokestatic 45, 3) := by decide +kernel
theorem dX0_takeStretch_13 : decode cX0_takeStretch 13 = .ok (.putfield 48, 3) := by decide +kernel
theorem dX0_takeStretch_16 : decode cX0_takeStretch 16 = .ok (.iload 4, 2) := by decide +kernel
theorem dX0_takeStretch_18 : decode cX0_takeStretch 18 = .ok (.iload 5, 2) := by decide +kernel
theorem dX0_takeStretch_20 : decode cX0_takeStretch 20 = .ok (.iadd, 1) := by decide +kernel
theorem dX0_takeStretch_21 : decode cX0_takeStretch 21 = .ok (.istore 6, 2) := by decide +kernel
theorem dX0_takeStretch_23 : decode cX0_takeStretch 23 = .ok (.iload 4, 2) := by decide +kernel
theorem dX0_takeStretch_25 : decode cX0_takeStretch 25 = .ok (.istore 7, 2) := by decide +kernel
theorem dX0_takeStretch_27 : decode cX0_takeStretch 27 = .ok (.iload 7, 2) := by decide +kernel
theorem dX0_takeStretch_29 : decode cX0_takeStretch 29 = .ok (.iload 6, 2) := by decide +kernel
theorem dX0_takeStretch_31 : decode cX0_takeStretch 31 = .ok (.if_icmp .ge 53, 3) := by decide +kernel
theorem dX0_takeStretch_34 : decode cX0_takeStretch 34 = .ok (.iload 7, 2) := by decide +kernel
theorem dX0_takeStretch_36 : decode cX0_takeStretch 36 = .ok (.iload_n 2, 1) := by decide +kernel
theorem dX0_takeStretch_37 : decode cX0_takeStretch 37 = .ok (.iload_n 3, 1) := by decide +kernel
theorem dX0_takeStretch_38 : decode cX0_takeStretch 38 = .ok (.invokestatic 52, 3) := by decide +kernel
theorem dX0_takeStretch_41 : decode cX0_takeStretch 41 = .ok (.iconst 4, 1) := by decide +kernel
theorem dX0_takeStretch_42 : decode cX0_takeStretch 42 = .ok (.imul, 1) := by decide +kernel
theorem dX0_takeStretch_43 : decode cX0_takeStretch 43 = .ok (.aload_n 1, 1) := by decide +kernel
theorem dX0_takeStretch_44 : decode cX0_takeStretch 44 = .ok (.iload 7, 2) := by decide +kernel
theorem dX0_takeStretch_46 : decode cX0_takeStretch 46 = .ok (.invokevirtual 56, 3) := by decide +kernel
theorem dX0_takeStretch_49 : decode cX0_takeStretch 49 = .ok (.iadd, 1) := by decide +kernel
theorem dX0_takeStretch_50 : decode cX0_takeStretch 50 = .ok (.istore 8, 2) := by decide +kernel
theorem dX0_takeStretch_52 : decode cX0_takeStretch 52 = .ok (.iload 8, 2) := by decide +kernel
theorem dX0_takeStretch_54 : decode cX0_takeStretch 54 = .ok (.ifCond .lt 24, 3) := by decide +kernel
theorem dX0_takeStretch_57 : decode cX0_takeStretch 57 = .ok (.iload 8, 2) := by decide +kernel
theorem dX0_takeStretch_59 : decode cX0_takeStretch 59 = .ok (.aload_n 0, 1) := by decide +kernel
theorem dX0_takeStretch_60 : decode cX0_takeStretch 60 = .ok (.getfield 9, 3) := by decide +kernel
theorem dX0_takeStretch_63 : decode cX0_takeStretch 63 = .ok (.arraylength, 1) := by decide +kernel
theorem dX0_takeStretch_64 : decode cX0_takeStretch 64 = .ok (.if_icmp .ge 14, 3) := by decide +kernel
theorem dX0_takeStretch_67 : decode cX0_takeStretch 67 = .ok (.aload_n 0, 1) := by decide +kernel
theorem dX0_takeStretch_68 : decode cX0_takeStretch 68 = .ok (.getfield 9, 3) := by decide +kernel
theorem dX0_takeStretch_71 : decode cX0_takeStretch 71 = .ok (.iload 8, 2) := by decide +kernel
theorem dX0_takeStretch_73 : decode cX0_takeStretch 73 = .ok (.dup2, 1) := by decide +kernel
theorem dX0_takeStretch_74 : decode cX0_takeStretch 74 = .ok (.iaload, 1) := by decide +kernel
theorem dX0_takeStretch_75 : decode cX0_takeStretch 75 = .ok (.iconst 1, 1) := by decide +kernel
theorem dX0_takeStretch_76 : decode cX0_takeStretch 76 = .ok (.iadd, 1) := by decide +kernel
theorem dX0_takeStretch_77 : decode cX0_takeStretch 77 = .ok (.iastore, 1) := by decide +kernel
theorem dX0_takeStretch_78 : decode cX0_takeStretch 78 = .ok (.iinc 7 1, 3) := by decide +kernel
theorem dX0_takeStretch_81 : decode cX0_takeStretch 81 = .ok (.goto (-54), 3) := by decide +kernel
theorem dX0_takeStretch_84 : decode cX0_takeStretch 84 = .ok (.return_, 1) := by decide +kernel
theorem dX0_countOf_0 : decode cX0_countOf 0 = .ok (.iload_n 1, 1) := by decide +kernel
theorem dX0_countOf_1 : decode cX0_countOf 1 = .ok (.iconst 4, 1) := by decide +kernel
theorem dX0_countOf_2 : decode cX0_countOf 2 = .ok (.imul, 1) := by decide +kernel
theorem dX0_countOf_3 : decode cX0_countOf 3 = .ok (.iload_n 2, 1) := by decide +kernel
theorem dX0_countOf_4 : decode cX0_countOf 4 = .ok (.iadd, 1) := by decide +kernel
theorem dX0_countOf_5 : decode cX0_countOf 5 = .ok (.istore_n 3, 1) := by decide +kernel
theorem dX0_countOf_6 : decode cX0_countOf 6 = .ok (.iload_n 3, 1) := by decide +kernel
theorem dX0_countOf_7 : decode cX0_countOf 7 = .ok (.ifCond .lt 21, 3) := by decide +kernel
theorem dX0_countOf_10 : decode cX0_countOf 10 = .ok (.iload_n 3, 1) := by decide +kernel
theorem dX0_countOf_11 : decode cX0_countOf 11 = .ok (.aload_n 0, 1) := by decide +kernel
theorem dX0_countOf_12 : decode cX0_countOf 12 = .ok (.getfield 9, 3) := by decide +kernel
theorem dX0_countOf_15 : decode cX0_countOf 15 = .ok (.arraylength, 1) := by decide +kernel
theorem dX0_countOf_16 : decode cX0_countOf 16 = .ok (.if_icmp .ge 12, 3) := by decide +kernel
theorem dX0_countOf_19 : decode cX0_countOf 19 = .ok (.aload_n 0, 1) := by decide +kernel
theorem dX0_countOf_20 : decode cX0_countOf 20 = .ok (.getfield 9, 3) := by decide +kernel
theorem dX0_countOf_23 : decode cX0_countOf 23 = .ok (.iload_n 3, 1) := by decide +kernel
theorem dX0_countOf_24 : decode cX0_countOf 24 = .ok (.iaload, 1) := by decide +kernel
theorem dX0_countOf_25 : decode cX0_countOf 25 = .ok (.goto 4, 3) := by decide +kernel
theorem dX0_countOf_28 : decode cX0_countOf 28 = .ok (.iconst (-1), 1) := by decide +kernel
theorem dX0_countOf_29 : decode cX0_countOf 29 = .ok (.ireturn, 1) := by decide +kernel
set_option maxRecDepth 20000 in
theorem ggX0_lookedAt_X0_countOf : GoodIn wsX0_lookedAt wsX0_countOf := goodIn_r _ [5, 6, 11, 12] (by decide +kernel) (by decide +kernel)
set_option maxRecDepth 20000 in
theorem gX0_lookedAt_X0_countOf : GoodIn wsX0_lookedAt (wsV RX0 59 RX0 yX0_countOf wsX0_countOf) := goodIn_app (goodIn_of _ (by decide +kernel)) ggX0_lookedAt_X0_countOf
set_option maxRecDepth 20000 in
theorem ggX0_lookedAt_X0_signOf : GoodIn wsX0_lookedAt wsX0_signOf := goodIn_r _ [10, 1, 2, 3, 4, 5, 6, 11, 12] (by decide +kernel) (by decide +kernel)
set_option maxRecDepth 20000 in
theorem gX0_lookedAt_X0_signOf : GoodIn wsX0_lookedAt (wsV RX0 63 RX0 yX0_signOf wsX0_signOf) := goodIn_app (goodIn_of _ (by decide +kernel)) ggX0_lookedAt_X0_signOf
theorem dX0_lookedAt_0 : decode cX0_lookedAt 0 = .ok (.iload_n 2, 1) := by decide +kernel
theorem dX0_lookedAt_1 : decode cX0_lookedAt 1 = .ok (.iconst 4, 1) := by decide +kernel
theorem dX0_lookedAt_2 : decode cX0_lookedAt 2 = .ok (.if_icmp .ge 12, 3) := by decide +kernel
theorem dX0_lookedAt_5 : decode cX0_lookedAt 5 = .ok (.aload_n 0, 1) := by decide +kernel
theorem dX0_lookedAt_6 : decode cX0_lookedAt 6 = .ok (.iload_n 1, 1) := by decide +kernel
theorem dX0_lookedAt_7 : decode cX0_lookedAt 7 = .ok (.iload_n 2, 1) := by decide +kernel
theorem dX0_lookedAt_8 : decode cX0_lookedAt 8 = .ok (.invokevirtual 59, 3) := by decide +kernel
theorem dX0_lookedAt_11 : decode cX0_lookedAt 11 = .ok (.goto 8, 3) := by decide +kernel
theorem dX0_lookedAt_14 : decode cX0_lookedAt 14 = .ok (.aload_n 0, 1) := by decide +kernel
theorem dX0_lookedAt_15 : decode cX0_lookedAt 15 = .ok (.iload_n 1, 1) := by decide +kernel
theorem dX0_lookedAt_16 : decode cX0_lookedAt 16 = .ok (.invokevirtual 63, 3) := by decide +kernel
theorem dX0_lookedAt_19 : decode cX0_lookedAt 19 = .ok (.ireturn, 1) := by decide +kernel
set_option maxRecDepth 20000 in
theorem ggX0_signOf_X0_countOf : GoodIn wsX0_signOf wsX0_countOf := goodIn_r _ [5, 6, 7, 8] (by decide +kernel) (by decide +kernel)
set_option maxRecDepth 20000 in
theorem gX0_signOf_X0_countOf : GoodIn wsX0_signOf (wsV RX0 59 RX0 yX0_countOf wsX0_countOf) := goodIn_app (goodIn_of _ (by decide +kernel)) ggX0_signOf_X0_countOf
theorem dX0_signOf_0 : decode cX0_signOf 0 = .ok (.iconst (-1), 1) := by decide +kernel
theorem dX0_signOf_1 : decode cX0_signOf 1 = .ok (.istore_n 2, 1) := by decide +kernel
theorem dX0_signOf_2 : decode cX0_signOf 2 = .ok (.iconst 0, 1) := by decide +kernel
theorem dX0_signOf_3 : decode cX0_signOf 3 = .ok (.istore_n 3, 1) := by decide +kernel
theorem dX0_signOf_4 : decode cX0_signOf 4 = .ok (.iconst 0, 1) := by decide +kernel
theorem dX0_signOf_5 : decode cX0_signOf 5 = .ok (.istore 4, 2) := by decide +kernel
theorem dX0_signOf_7 : decode cX0_signOf 7 = .ok (.iload 4, 2) := by decide +kernel
theorem dX0_signOf_9 : decode cX0_signOf 9 = .ok (.iconst 4, 1) := by decide +kernel
theorem dX0_signOf_10 : decode cX0_signOf 10 = .ok (.if_icmp .ge 30, 3) := by decide +kernel
theorem dX0_signOf_13 : decode cX0_signOf 13 = .ok (.aload_n 0, 1) := by decide +kernel
theorem dX0_signOf_14 : decode cX0_signOf 14 = .ok (.iload_n 1, 1) := by decide +kernel
theorem dX0_signOf_15 : decode cX0_signOf 15 = .ok (.iload 4, 2) := by decide +kernel
theorem dX0_signOf_17 : decode cX0_signOf 17 = .ok (.invokevirtual 59, 3) := by decide +kernel
theorem dX0_signOf_20 : decode cX0_signOf 20 = .ok (.istore 5, 2) := by decide +kernel
theorem dX0_signOf_22 : decode cX0_signOf 22 = .ok (.iload 5, 2) := by decide +kernel
theorem dX0_signOf_24 : decode cX0_signOf 24 = .ok (.iload_n 3, 1) := by decide +kernel
theorem dX0_signOf_25 : decode cX0_signOf 25 = .ok (.if_icmp .le 9, 3) := by decide +kernel
theorem dX0_signOf_28 : decode cX0_signOf 28 = .ok (.iload 4, 2) := by decide +kernel
theorem dX0_signOf_30 : decode cX0_signOf 30 = .ok (.istore_n 2, 1) := by decide +kernel
theorem dX0_signOf_31 : decode cX0_signOf 31 = .ok (.iload 5, 2) := by decide +kernel
theorem dX0_signOf_33 : decode cX0_signOf 33 = .ok (.istore_n 3, 1) := by decide +kernel
theorem dX0_signOf_34 : decode cX0_signOf 34 = .ok (.iinc 4 1, 3) := by decide +kernel
theorem dX0_signOf_37 : decode cX0_signOf 37 = .ok (.goto (-30), 3) := by decide +kernel
theorem dX0_signOf_40 : decode cX0_signOf 40 = .ok (.iload_n 2, 1) := by decide +kernel
theorem dX0_signOf_41 : decode cX0_signOf 41 = .ok (.ireturn, 1) := by decide +kernel
set_option maxRecDepth 20000 in
theorem ggX0_explained_X0_greatestOf : GoodIn wsX0_explained wsX0_greatestOf := goodIn_r _ [6, 7, 8, 9, 5, 10, 11, 12, 13] (by decide +kernel) (by decide +kernel)
set_option maxRecDepth 20000 in
theorem gX0_explained_X0_greatestOf : GoodIn wsX0_explained (wsV RX0 66 RX0 yX0_greatestOf wsX0_greatestOf) := goodIn_app (goodIn_of _ (by decide +kernel)) ggX0_explained_X0_greatestOf
theorem dX0_explained_0 : decode cX0_explained 0 = .ok (.iconst 0, 1) := by decide +kernel
theorem dX0_explained_1 : decode cX0_explained 1 = .ok (.istore_n 1, 1) := by decide +kernel
theorem dX0_explained_2 : decode cX0_explained 2 = .ok (.iconst 0, 1) := by decide +kernel
theorem dX0_explained_3 : decode cX0_explained 3 = .ok (.istore_n 2, 1) := by decide +kernel
theorem dX0_explained_4 : decode cX0_explained 4 = .ok (.iload_n 2, 1) := by decide +kernel
theorem dX0_explained_5 : decode cX0_explained 5 = .ok (.aload_n 0, 1) := by decide +kernel
theorem dX0_explained_6 : decode cX0_explained 6 = .ok (.getfield 48, 3) := by decide +kernel
theorem dX0_explained_9 : decode cX0_explained 9 = .ok (.if_icmp .ge 17, 3) := by decide +kernel
theorem dX0_explained_12 : decode cX0_explained 12 = .ok (.iload_n 1, 1) := by decide +kernel
theorem dX0_explained_13 : decode cX0_explained 13 = .ok (.aload_n 0, 1) := by decide +kernel
theorem dX0_explained_14 : decode cX0_explained 14 = .ok (.iload_n 2, 1) := by decide +kernel
theorem dX0_explained_15 : decode cX0_explained 15 = .ok (.invokevirtual 66, 3) := by decide +kernel
theorem dX0_explained_18 : decode cX0_explained 18 = .ok (.iadd, 1) := by decide +kernel
theorem dX0_explained_19 : decode cX0_explained 19 = .ok (.istore_n 1, 1) := by decide +kernel
theorem dX0_explained_20 : decode cX0_explained 20 = .ok (.iinc 2 1, 3) := by decide +kernel
theorem dX0_explained_23 : decode cX0_explained 23 = .ok (.goto (-19), 3) := by decide +kernel
theorem dX0_explained_26 : decode cX0_explained 26 = .ok (.iload_n 1, 1) := by decide +kernel
theorem dX0_explained_27 : decode cX0_explained 27 = .ok (.ireturn, 1) := by decide +kernel
set_option maxRecDepth 20000 in
theorem ggX0_strongSignOf_X0_greatestOf : GoodIn wsX0_strongSignOf wsX0_greatestOf := goodIn_r _ [5, 6, 7, 8, 4, 9, 10, 19, 20] (by decide +kernel) (by decide +kernel)
set_option maxRecDepth 20000 in
theorem gX0_strongSignOf_X0_greatestOf : GoodIn wsX0_strongSignOf (wsV RX0 66 RX0 yX0_greatestOf wsX0_greatestOf) := goodIn_app (goodIn_of _ (by decide +kernel)) ggX0_strongSignOf_X0_greatestOf
set_option maxRecDepth 20000 in
theorem ggX0_strongSignOf_X0_placesOf : GoodIn wsX0_strongSignOf wsX0_placesOf := goodIn_r _ [14, 6, 7, 8, 4, 9, 10, 19, 20] (by decide +kernel) (by decide +kernel)
set_option maxRecDepth 20000 in
theorem gX0_strongSignOf_X0_placesOf : GoodIn wsX0_strongSignOf (wsV RX0 69 RX0 yX0_placesOf wsX0_placesOf) := goodIn_app (goodIn_of _ (by decide +kernel)) ggX0_strongSignOf_X0_placesOf
set_option maxRecDepth 20000 in
theorem ggX0_strongSignOf_X0_signOf : GoodIn wsX0_strongSignOf wsX0_signOf := goodIn_r _ [18, 6, 7, 8, 4, 9, 10, 19, 20] (by decide +kernel) (by decide +kernel)
set_option maxRecDepth 20000 in
theorem gX0_strongSignOf_X0_signOf : GoodIn wsX0_strongSignOf (wsV RX0 63 RX0 yX0_signOf wsX0_signOf) := goodIn_app (goodIn_of _ (by decide +kernel)) ggX0_strongSignOf_X0_signOf
theorem dX0_strongSignOf_0 : decode cX0_strongSignOf 0 = .ok (.bipush 100, 2) := by decide +kernel
theorem dX0_strongSignOf_2 : decode cX0_strongSignOf 2 = .ok (.aload_n 0, 1) := by decide +kernel
theorem dX0_strongSignOf_3 : decode cX0_strongSignOf 3 = .ok (.iload_n 1, 1) := by decide +kernel
theorem dX0_strongSignOf_4 : decode cX0_strongSignOf 4 = .ok (.invokevirtual 66, 3) := by decide +kernel
theorem dX0_strongSignOf_7 : decode cX0_strongSignOf 7 = .ok (.imul, 1) := by decide +kernel
theorem dX0_strongSignOf_8 : decode cX0_strongSignOf 8 = .ok (.iload_n 2, 1) := by decide +kernel
theorem dX0_strongSignOf_9 : decode cX0_strongSignOf 9 = .ok (.aload_n 0, 1) := by decide +kernel
theorem dX0_strongSignOf_10 : decode cX0_strongSignOf 10 = .ok (.iload_n 1, 1) := by decide +kernel
theorem dX0_strongSignOf_11 : decode cX0_strongSignOf 11 = .ok (.invokevirtual 69, 3) := by decide +kernel
theorem dX0_strongSignOf_14 : decode cX0_strongSignOf 14 = .ok (.imul, 1) := by decide +kernel
theorem dX0_strongSignOf_15 : decode cX0_strongSignOf 15 = .ok (.if_icmp .lt 7, 3) := by decide +kernel
theorem dX0_strongSignOf_18 : decode cX0_strongSignOf 18 = .ok (.iconst 1, 1) := by decide +kernel
theorem dX0_strongSignOf_19 : decode cX0_strongSignOf 19 = .ok (.goto 4, 3) := by decide +kernel
theorem dX0_strongSignOf_22 : decode cX0_strongSignOf 22 = .ok (.iconst 0, 1) := by decide +kernel
theorem dX0_strongSignOf_23 : decode cX0_strongSignOf 23 = .ok (.istore_n 3, 1) := by decide +kernel
theorem dX0_strongSignOf_24 : decode cX0_strongSignOf 24 = .ok (.iload_n 3, 1) := by decide +kernel
theorem dX0_strongSignOf_25 : decode cX0_strongSignOf 25 = .ok (.ifCond .eq 11, 3) := by decide +kernel
theorem dX0_strongSignOf_28 : decode cX0_strongSignOf 28 = .ok (.aload_n 0, 1) := by decide +kernel
theorem dX0_strongSignOf_29 : decode cX0_strongSignOf 29 = .ok (.iload_n 1, 1) := by decide +kernel
theorem dX0_strongSignOf_30 : decode cX0_strongSignOf 30 = .ok (.invokevirtual 63, 3) := by decide +kernel
theorem dX0_strongSignOf_33 : decode cX0_strongSignOf 33 = .ok (.goto 4, 3) := by decide +kernel
theorem dX0_strongSignOf_36 : decode cX0_strongSignOf 36 = .ok (.iconst (-1), 1) := by decide +kernel
theorem dX0_strongSignOf_37 : decode cX0_strongSignOf 37 = .ok (.ireturn, 1) := by decide +kernel
set_option maxRecDepth 20000 in
theorem ggX0_strongClasses_X0_strongSignOf : GoodIn wsX0_strongClasses wsX0_strongSignOf := goodIn_r _ [6, 7, 8, 9, 5, 10, 11, 12, 13, 14, 15, 16, 17, 18, 19, 20, 21, 22, 23, 24, 25] (by decide +kernel) (by decide +kernel)
set_option maxRecDepth 20000 in
theorem gX0_strongClasses_X0_strongSignOf : GoodIn wsX0_strongClasses (wsV RX0 72 RX0 yX0_strongSignOf wsX0_strongSignOf) := goodIn_app (goodIn_of _ (by decide +kernel)) ggX0_strongClasses_X0_strongSignOf
theorem dX0_strongClasses_0 : decode cX0_strongClasses 0 = .ok (.iconst 0, 1) := by decide +kernel
theorem dX0_strongClasses_1 : decode cX0_strongClasses 1 = .ok (.istore_n 2, 1) := by decide +kernel
theorem dX0_strongClasses_2 : decode cX0_strongClasses 2 = .ok (.iconst 0, 1) := by decide +kernel
theorem dX0_strongClasses_3 : decode cX0_strongClasses 3 = .ok (.istore_n 3, 1) := by decide +kernel
theorem dX0_strongClasses_4 : decode cX0_strongClasses 4 = .ok (.iload_n 3, 1) := by decide +kernel
theorem dX0_strongClasses_5 : decode cX0_strongClasses 5 = .ok (.aload_n 0, 1) := by decide +kernel
theorem dX0_strongClasses_6 : decode cX0_strongClasses 6 = .ok (.getfield 48, 3) := by decide +kernel
theorem dX0_strongClasses_9 : decode cX0_strongClasses 9 = .ok (.if_icmp .ge 22, 3) := by decide +kernel
theorem dX0_strongClasses_12 : decode cX0_strongClasses 12 = .ok (.aload_n 0, 1) := by decide +kernel
theorem dX0_strongClasses_13 : decode cX0_strongClasses 13 = .ok (.iload_n 3, 1) := by decide +kernel
theorem dX0_strongClasses_14 : decode cX0_strongClasses 14 = .ok (.iload_n 1, 1) := by decide +kernel
theorem dX0_strongClasses_15 : decode cX0_strongClasses 15 = .ok (.invokevirtual 72, 3) := by decide +kernel
theorem dX0_strongClasses_18 : decode cX0_strongClasses 18 = .ok (.iconst (-1), 1) := by decide +kernel
theorem dX0_strongClasses_19 : decode cX0_strongClasses 19 = .ok (.if_icmp .eq 6, 3) := by decide +kernel
theorem dX0_strongClasses_22 : decode cX0_strongClasses 22 = .ok (.iinc 2 1, 3) := by decide +kernel
theorem dX0_strongClasses_25 : decode cX0_strongClasses 25 = .ok (.iinc 3 1, 3) := by decide +kernel
theorem dX0_strongClasses_28 : decode cX0_strongClasses 28 = .ok (.goto (-24), 3) := by decide +kernel
theorem dX0_strongClasses_31 : decode cX0_strongClasses 31 = .ok (.iload_n 2, 1) := by decide +kernel
theorem dX0_strongClasses_32 : decode cX0_strongClasses 32 = .ok (.ireturn, 1) := by decide +kernel
set_option maxRecDepth 20000 in
theorem ggX0_greatestOf_X0_countOf : GoodIn wsX0_greatestOf wsX0_countOf := goodIn_r _ [5, 6, 7, 8] (by decide +kernel) (by decide +kernel)
set_option maxRecDepth 20000 in
theorem gX0_greatestOf_X0_countOf : GoodIn wsX0_greatestOf (wsV RX0 59 RX0 yX0_countOf wsX0_countOf) := goodIn_app (goodIn_of _ (by decide +kernel)) ggX0_greatestOf_X0_countOf
theorem dX0_greatestOf_0 : decode cX0_greatestOf 0 = .ok (.iconst 0, 1) := by decide +kernel
theorem dX0_greatestOf_1 : decode cX0_greatestOf 1 = .ok (.istore_n 2, 1) := by decide +kernel
theorem dX0_greatestOf_2 : decode cX0_greatestOf 2 = .ok (.iconst 0, 1) := by decide +kernel
theorem dX0_greatestOf_3 : decode cX0_greatestOf 3 = .ok (.istore_n 3, 1) := by decide +kernel
theorem dX0_greatestOf_4 : decode cX0_greatestOf 4 = .ok (.iload_n 3, 1) := by decide +kernel
theorem dX0_greatestOf_5 : decode cX0_greatestOf 5 = .ok (.iconst 4, 1) := by decide +kernel
theorem dX0_greatestOf_6 : decode cX0_greatestOf 6 = .ok (.if_icmp .ge 26, 3) := by decide +kernel
theorem dX0_greatestOf_9 : decode cX0_greatestOf 9 = .ok (.aload_n 0, 1) := by decide +kernel
theorem dX0_greatestOf_10 : decode cX0_greatestOf 10 = .ok (.iload_n 1, 1) := by decide +kernel
theorem dX0_greatestOf_11 : decode cX0_greatestOf 11 = .ok (.iload_n 3, 1) := by decide +kernel
theorem dX0_greatestOf_12 : decode cX0_greatestOf 12 = .ok (.invokevirtual 59, 3) := by decide +kernel
theorem dX0_greatestOf_15 : decode cX0_greatestOf 15 = .ok (.istore 4, 2) := by decide +kernel
theorem dX0_greatestOf_17 : decode cX0_greatestOf 17 = .ok (.iload 4, 2) := by decide +kernel
theorem dX0_greatestOf_19 : decode cX0_greatestOf 19 = .ok (.iload_n 2, 1) := by decide +kernel
theorem dX0_greatestOf_20 : decode cX0_greatestOf 20 = .ok (.if_icmp .le 6, 3) := by decide +kernel
theorem dX0_greatestOf_23 : decode cX0_greatestOf 23 = .ok (.iload 4, 2) := by decide +kernel
theorem dX0_greatestOf_25 : decode cX0_greatestOf 25 = .ok (.istore_n 2, 1) := by decide +kernel
theorem dX0_greatestOf_26 : decode cX0_greatestOf 26 = .ok (.iinc 3 1, 3) := by decide +kernel
theorem dX0_greatestOf_29 : decode cX0_greatestOf 29 = .ok (.goto (-25), 3) := by decide +kernel
theorem dX0_greatestOf_32 : decode cX0_greatestOf 32 = .ok (.iload_n 2, 1) := by decide +kernel
theorem dX0_greatestOf_33 : decode cX0_greatestOf 33 = .ok (.ireturn, 1) := by decide +kernel
set_option maxRecDepth 20000 in
theorem ggX0_placesOf_X0_countOf : GoodIn wsX0_placesOf wsX0_countOf := goodIn_r _ [5, 6, 7, 8] (by decide +kernel) (by decide +kernel)
set_option maxRecDepth 20000 in
theorem gX0_placesOf_X0_countOf : GoodIn wsX0_placesOf (wsV RX0 59 RX0 yX0_countOf wsX0_countOf) := goodIn_app (goodIn_of _ (by decide +kernel)) ggX0_placesOf_X0_countOf
theorem dX0_placesOf_0 : decode cX0_placesOf 0 = .ok (.iconst 0, 1) := by decide +kernel
theorem dX0_placesOf_1 : decode cX0_placesOf 1 = .ok (.istore_n 2, 1) := by decide +kernel
theorem dX0_placesOf_2 : decode cX0_placesOf 2 = .ok (.iconst 0, 1) := by decide +kernel
theorem dX0_placesOf_3 : decode cX0_placesOf 3 = .ok (.istore_n 3, 1) := by decide +kernel
theorem dX0_placesOf_4 : decode cX0_placesOf 4 = .ok (.iload_n 3, 1) := by decide +kernel
theorem dX0_placesOf_5 : decode cX0_placesOf 5 = .ok (.iconst 4, 1) := by decide +kernel
theorem dX0_placesOf_6 : decode cX0_placesOf 6 = .ok (.if_icmp .ge 18, 3) := by decide +kernel
theorem dX0_placesOf_9 : decode cX0_placesOf 9 = .ok (.iload_n 2, 1) := by decide +kernel
theorem dX0_placesOf_10 : decode cX0_placesOf 10 = .ok (.aload_n 0, 1) := by decide +kernel
theorem dX0_placesOf_11 : decode cX0_placesOf 11 = .ok (.iload_n 1, 1) := by decide +kernel
theorem dX0_placesOf_12 : decode cX0_placesOf 12 = .ok (.iload_n 3, 1) := by decide +kernel
theorem dX0_placesOf_13 : decode cX0_placesOf 13 = .ok (.invokevirtual 59, 3) := by decide +kernel
theorem dX0_placesOf_16 : decode cX0_placesOf 16 = .ok (.iadd, 1) := by decide +kernel
theorem dX0_placesOf_17 : decode cX0_placesOf 17 = .ok (.istore_n 2, 1) := by decide +kernel
theorem dX0_placesOf_18 : decode cX0_placesOf 18 = .ok (.iinc 3 1, 3) := by decide +kernel
theorem dX0_placesOf_21 : decode cX0_placesOf 21 = .ok (.goto (-17), 3) := by decide +kernel
theorem dX0_placesOf_24 : decode cX0_placesOf 24 = .ok (.iload_n 2, 1) := by decide +kernel
theorem dX0_placesOf_25 : decode cX0_placesOf 25 = .ok (.ireturn, 1) := by decide +kernel
set_option maxRecDepth 20000 in
theorem ggX1_init_X2_init : GoodIn wsX1_init wsX2_init := goodIn_r _ [9, 10, 2, 3, 11, 12, 13, 14, 15, 19, 20, 21, 22, 23, 24, 25, 26] (by decide +kernel) (by decide +kernel)
set_option maxRecDepth 20000 in
theorem gX1_init_X2_init_n17 : GoodIn wsX1_init (wsX2_init) := ggX1_init_X2_init
theorem dX1_init_0 : decode cX1_init 0 = .ok (.aload_n 0, 1) := by decide +kernel
theorem dX1_init_1 : decode cX1_init 1 = .ok (.invokespecial 3, 3) := by decide +kernel
theorem dX1_init_4 : decode cX1_init 4 = .ok (.aload_n 0, 1) := by decide +kernel
theorem dX1_init_5 : decode cX1_init 5 = .ok (.bipush 6, 2) := by decide +kernel
theorem dX1_init_7 : decode cX1_init 7 = .ok (.anewarray 9, 3) := by decide +kernel
theorem dX1_init_10 : decode cX1_init 10 = .ok (.putfield 11, 3) := by decide +kernel
theorem dX1_init_13 : decode cX1_init 13 = .ok (.iconst 0, 1) := by decide +kernel
theorem dX1_init_14 : decode cX1_init 14 = .ok (.istore_n 1, 1) := by decide +kernel
theorem dX1_init_15 : decode cX1_init 15 = .ok (.iload_n 1, 1) := by decide +kernel
theorem dX1_init_16 : decode cX1_init 16 = .ok (.aload_n 0, 1) := by decide +kernel
theorem dX1_init_17 : decode cX1_init 17 = .ok (.getfield 11, 3) := by decide +kernel
theorem dX1_init_20 : decode cX1_init 20 = .ok (.arraylength, 1) := by decide +kernel
theorem dX1_init_21 : decode cX1_init 21 = .ok (.if_icmp .ge 22, 3) := by decide +kernel
theorem dX1_init_24 : decode cX1_init 24 = .ok (.aload_n 0, 1) := by decide +kernel
theorem dX1_init_25 : decode cX1_init 25 = .ok (.getfield 11, 3) := by decide +kernel
theorem dX1_init_28 : decode cX1_init 28 = .ok (.iload_n 1, 1) := by decide +kernel
theorem dX1_init_29 : decode cX1_init 29 = .ok (.new 9, 3) := by decide +kernel
theorem dX1_init_32 : decode cX1_init 32 = .ok (.dup, 1) := by decide +kernel
theorem dX1_init_33 : decode cX1_init 33 = .ok (.invokespecial 17, 3) := by decide +kernel
theorem dX1_init_36 : decode cX1_init 36 = .ok (.aastore, 1) := by decide +kernel
theorem dX1_init_37 : decode cX1_init 37 = .ok (.iinc 1 1, 3) := by decide +kernel
theorem dX1_init_40 : decode cX1_init 40 = .ok (.goto (-25), 3) := by decide +kernel
theorem dX1_init_43 : decode cX1_init 43 = .ok (.return_, 1) := by decide +kernel
set_option maxRecDepth 20000 in
theorem ggX1_save_X1_slotAt : GoodIn wsX1_save wsX1_slotAt := goodIn_r _ [11, 12, 34, 35, 36] (by decide +kernel) (by decide +kernel)
set_option maxRecDepth 20000 in
theorem gX1_save_X1_slotAt : GoodIn wsX1_save (wsV RX1 22 RX1 yX1_slotAt wsX1_slotAt) := goodIn_app (goodIn_of _ (by decide +kernel)) ggX1_save_X1_slotAt
set_option maxRecDepth 20000 in
theorem ggX1_save_X2_become : GoodIn wsX1_save wsX2_become := goodIn_r _ [17, 18, 19, 20, 21, 22, 23, 24, 25, 26, 27, 28, 29, 4, 5, 6, 30, 31, 32, 33, 37, 38, 39, 40, 41, 42, 43, 44] (by decide +kernel) (by decide +kernel)
set_option maxRecDepth 20000 in
theorem gX1_save_X2_become : GoodIn wsX1_save (wsV RX1 26 RX2 yX2_become wsX2_become) := goodIn_app (goodIn_of _ (by decide +kernel)) ggX1_save_X2_become
theorem dX1_save_0 : decode cX1_save 0 = .ok (.aload_n 0, 1) := by decide +kernel
theorem dX1_save_1 : decode cX1_save 1 = .ok (.aload_n 0, 1) := by decide +kernel
theorem dX1_save_2 : decode cX1_save 2 = .ok (.getfield 18, 3) := by decide +kernel
theorem dX1_save_5 : decode cX1_save 5 = .ok (.invokevirtual 22, 3) := by decide +kernel
theorem dX1_save_8 : decode cX1_save 8 = .ok (.astore_n 2, 1) := by decide +kernel
theorem dX1_save_9 : decode cX1_save 9 = .ok (.aload_n 2, 1) := by decide +kernel
theorem dX1_save_10 : decode cX1_save 10 = .ok (.ifnull 8, 3) := by decide +kernel
theorem dX1_save_13 : decode cX1_save 13 = .ok (.aload_n 2, 1) := by decide +kernel
theorem dX1_save_14 : decode cX1_save 14 = .ok (.aload_n 1, 1) := by decide +kernel
theorem dX1_save_15 : decode cX1_save 15 = .ok (.invokevirtual 26, 3) := by decide +kernel
theorem dX1_save_18 : decode cX1_save 18 = .ok (.aload_n 0, 1) := by decide +kernel
theorem dX1_save_19 : decode cX1_save 19 = .ok (.aload_n 0, 1) := by decide +kernel
theorem dX1_save_20 : decode cX1_save 20 = .ok (.getfield 18, 3) := by decide +kernel
theorem dX1_save_23 : decode cX1_save 23 = .ok (.iconst 1, 1) := by decide +kernel
theorem dX1_save_24 : decode cX1_save 24 = .ok (.iadd, 1) := by decide +kernel
theorem dX1_save_25 : decode cX1_save 25 = .ok (.bipush 6, 2) := by decide +kernel
theorem dX1_save_27 : decode cX1_save 27 = .ok (.irem, 1) := by decide +kernel
theorem dX1_save_28 : decode cX1_save 28 = .ok (.putfield 18, 3) := by decide +kernel
theorem dX1_save_31 : decode cX1_save 31 = .ok (.aload_n 0, 1) := by decide +kernel
theorem dX1_save_32 : decode cX1_save 32 = .ok (.aload_n 0, 1) := by decide +kernel
theorem dX1_save_33 : decode cX1_save 33 = .ok (.getfield 30, 3) := by decide +kernel
theorem dX1_save_36 : decode cX1_save 36 = .ok (.iconst 1, 1) := by decide +kernel
theorem dX1_save_37 : decode cX1_save 37 = .ok (.iadd, 1) := by decide +kernel
theorem dX1_save_38 : decode cX1_save 38 = .ok (.bipush 6, 2) := by decide +kernel
theorem dX1_save_40 : decode cX1_save 40 = .ok (.invokestatic 33, 3) := by decide +kernel
theorem dX1_save_43 : decode cX1_save 43 = .ok (.putfield 30, 3) := by decide +kernel
theorem dX1_save_46 : decode cX1_save 46 = .ok (.return_, 1) := by decide +kernel
set_option maxRecDepth 20000 in
theorem ggX1_restore_X1_slotAt : GoodIn wsX1_restore wsX1_slotAt := goodIn_r _ [7, 8, 33, 34, 35] (by decide +kernel) (by decide +kernel)
set_option maxRecDepth 20000 in
theorem gX1_restore_X1_slotAt : GoodIn wsX1_restore (wsV RX1 22 RX1 yX1_slotAt wsX1_slotAt) := goodIn_app (goodIn_of _ (by decide +kernel)) ggX1_restore_X1_slotAt
set_option maxRecDepth 20000 in
theorem ggX1_restore_X2_become : GoodIn wsX1_restore wsX2_become := goodIn_r _ [13, 14, 15, 16, 17, 18, 19, 20, 21, 22, 23, 24, 25, 26, 27, 28, 29, 30, 31, 32, 36, 37, 38, 39, 40, 41, 42, 43] (by decide +kernel) (by decide +kernel)
set_option maxRecDepth 20000 in
theorem gX1_restore_X2_become : GoodIn wsX1_restore (wsV RX1 26 RX2 yX2_become wsX2_become) := goodIn_app (goodIn_of _ (by decide +kernel)) ggX1_restore_X2_become
theorem dX1_restore_0 : decode cX1_restore 0 = .ok (.aload_n 0, 1) := by decide +kernel
theorem dX1_restore_1 : decode cX1_restore 1 = .ok (.aload_n 0, 1) := by decide +kernel
theorem dX1_restore_2 : decode cX1_restore 2 = .ok (.getfield 18, 3) := by decide +kernel
theorem dX1_restore_5 : decode cX1_restore 5 = .ok (.bipush 6, 2) := by decide +kernel
theorem dX1_restore_7 : decode cX1_restore 7 = .ok (.iadd, 1) := by decide +kernel
theorem dX1_restore_8 : decode cX1_restore 8 = .ok (.iconst 1, 1) := by decide +kernel
theorem dX1_restore_9 : decode cX1_restore 9 = .ok (.isub, 1) := by decide +kernel
theorem dX1_restore_10 : decode cX1_restore 10 = .ok (.bipush 6, 2) := by decide +kernel
theorem dX1_restore_12 : decode cX1_restore 12 = .ok (.irem, 1) := by decide +kernel
theorem dX1_restore_13 : decode cX1_restore 13 = .ok (.putfield 18, 3) := by decide +kernel
theorem dX1_restore_16 : decode cX1_restore 16 = .ok (.aload_n 0, 1) := by decide +kernel
theorem dX1_restore_17 : decode cX1_restore 17 = .ok (.dup, 1) := by decide +kernel
theorem dX1_restore_18 : decode cX1_restore 18 = .ok (.getfield 30, 3) := by decide +kernel
theorem dX1_restore_21 : decode cX1_restore 21 = .ok (.iconst 1, 1) := by decide +kernel
theorem dX1_restore_22 : decode cX1_restore 22 = .ok (.isub, 1) := by decide +kernel
theorem dX1_restore_23 : decode cX1_restore 23 = .ok (.putfield 30, 3) := by decide +kernel
theorem dX1_restore_26 : decode cX1_restore 26 = .ok (.aload_n 0, 1) := by decide +kernel
theorem dX1_restore_27 : decode cX1_restore 27 = .ok (.aload_n 0, 1) := by decide +kernel
theorem dX1_restore_28 : decode cX1_restore 28 = .ok (.getfield 18, 3) := by decide +kernel
theorem dX1_restore_31 : decode cX1_restore 31 = .ok (.invokevirtual 22, 3) := by decide +kernel
theorem dX1_restore_34 : decode cX1_restore 34 = .ok (.astore_n 2, 1) := by decide +kernel
theorem dX1_restore_35 : decode cX1_restore 35 = .ok (.aload_n 2, 1) := by decide +kernel
theorem dX1_restore_36 : decode cX1_restore 36 = .ok (.ifnull 8, 3) := by decide +kernel
theorem dX1_restore_39 : decode cX1_restore 39 = .ok (.aload_n 1, 1) := by decide +kernel
theorem dX1_restore_40 : decode cX1_restore 40 = .ok (.aload_n 2, 1) := by decide +kernel
theorem dX1_restore_41 : decode cX1_restore 41 = .ok (.invokevirtual 26, 3) := by decide +kernel
theorem dX1_restore_44 : decode cX1_restore 44 = .ok (.return_, 1) := by decide +kernel
theorem dX1_slotAt_0 : decode cX1_slotAt 0 = .ok (.iload_n 1, 1) := by decide +kernel
theorem dX1_slotAt_1 : decode cX1_slotAt 1 = .ok (.ifCond .lt 21, 3) := by decide +kernel
theorem dX1_slotAt_4 : decode cX1_slotAt 4 = .ok (.iload_n 1, 1) := by decide +kernel
theorem dX1_slotAt_5 : decode cX1_slotAt 5 = .ok (.aload_n 0, 1) := by decide +kernel
theorem dX1_slotAt_6 : decode cX1_slotAt 6 = .ok (.getfield 11, 3) := by decide +kernel
theorem dX1_slotAt_9 : decode cX1_slotAt 9 = .ok (.arraylength, 1) := by decide +kernel
theorem dX1_slotAt_10 : decode cX1_slotAt 10 = .ok (.if_icmp .ge 12, 3) := by decide +kernel
theorem dX1_slotAt_13 : decode cX1_slotAt 13 = .ok (.aload_n 0, 1) := by decide +kernel
theorem dX1_slotAt_14 : decode cX1_slotAt 14 = .ok (.getfield 11, 3) := by decide +kernel
theorem dX1_slotAt_17 : decode cX1_slotAt 17 = .ok (.iload_n 1, 1) := by decide +kernel
theorem dX1_slotAt_18 : decode cX1_slotAt 18 = .ok (.aaload, 1) := by decide +kernel
theorem dX1_slotAt_19 : decode cX1_slotAt 19 = .ok (.goto 4, 3) := by decide +kernel
theorem dX1_slotAt_22 : decode cX1_slotAt 22 = .ok (.aconst_null, 1) := by decide +kernel
theorem dX1_slotAt_23 : decode cX1_slotAt 23 = .ok (.areturn, 1) := by decide +kernel
theorem dX2_init_0 : decode cX2_init 0 = .ok (.aload_n 0, 1) := by decide +kernel
theorem dX2_init_1 : decode cX2_init 1 = .ok (.invokespecial 3, 3) := by decide +kernel
theorem dX2_init_4 : decode cX2_init 4 = .ok (.aload_n 0, 1) := by decide +kernel
theorem dX2_init_5 : decode cX2_init 5 = .ok (.sipush 240, 3) := by decide +kernel
theorem dX2_init_8 : decode cX2_init 8 = .ok (.newarray .int, 2) := by decide +kernel
theorem dX2_init_10 : decode cX2_init 10 = .ok (.putfield 9, 3) := by decide +kernel
theorem dX2_init_13 : decode cX2_init 13 = .ok (.aload_n 0, 1) := by decide +kernel
theorem dX2_init_14 : decode cX2_init 14 = .ok (.iconst 4, 1) := by decide +kernel
theorem dX2_init_15 : decode cX2_init 15 = .ok (.newarray .int, 2) := by decide +kernel
theorem dX2_init_17 : decode cX2_init 17 = .ok (.putfield 15, 3) := by decide +kernel
theorem dX2_init_20 : decode cX2_init 20 = .ok (.aload_n 0, 1) := by decide +kernel
theorem dX2_init_21 : decode cX2_init 21 = .ok (.iconst 4, 1) := by decide +kernel
theorem dX2_init_22 : decode cX2_init 22 = .ok (.newarray .int, 2) := by decide +kernel
theorem dX2_init_24 : decode cX2_init 24 = .ok (.putfield 18, 3) := by decide +kernel
theorem dX2_init_27 : decode cX2_init 27 = .ok (.aload_n 0, 1) := by decide +kernel
theorem dX2_init_28 : decode cX2_init 28 = .ok (.bipush 75, 2) := by decide +kernel
theorem dX2_init_30 : decode cX2_init 30 = .ok (.putfield 21, 3) := by decide +kernel
theorem dX2_init_33 : decode cX2_init 33 = .ok (.return_, 1) := by decide +kernel
set_option maxRecDepth 20000 in
theorem ggX2_become_X5_copyCells : GoodIn wsX2_become wsX5_copyCells := goodIn_r _ [11, 12, 13, 14, 15, 16, 17, 18, 19] (by decide +kernel) (by decide +kernel)
set_option maxRecDepth 20000 in
theorem gX2_become_X5_copyCells_n25 : GoodIn wsX2_become (wsX5_copyCells) := ggX2_become_X5_copyCells
theorem dX2_become_0 : decode cX2_become 0 = .ok (.aload_n 1, 1) := by decide +kernel
theorem dX2_become_1 : decode cX2_become 1 = .ok (.getfield 9, 3) := by decide +kernel
theorem dX2_become_4 : decode cX2_become 4 = .ok (.aload_n 0, 1) := by decide +kernel
theorem dX2_become_5 : decode cX2_become 5 = .ok (.getfield 9, 3) := by decide +kernel
theorem dX2_become_8 : decode cX2_become 8 = .ok (.invokestatic 25, 3) := by decide +kernel
theorem dX2_become_11 : decode cX2_become 11 = .ok (.aload_n 1, 1) := by decide +kernel
theorem dX2_become_12 : decode cX2_become 12 = .ok (.getfield 15, 3) := by decide +kernel
theorem dX2_become_15 : decode cX2_become 15 = .ok (.aload_n 0, 1) := by decide +kernel
theorem dX2_become_16 : decode cX2_become 16 = .ok (.getfield 15, 3) := by decide +kernel
theorem dX2_become_19 : decode cX2_become 19 = .ok (.invokestatic 25, 3) := by decide +kernel
theorem dX2_become_22 : decode cX2_become 22 = .ok (.aload_n 1, 1) := by decide +kernel
theorem dX2_become_23 : decode cX2_become 23 = .ok (.getfield 18, 3) := by decide +kernel
theorem dX2_become_26 : decode cX2_become 26 = .ok (.aload_n 0, 1) := by decide +kernel
theorem dX2_become_27 : decode cX2_become 27 = .ok (.getfield 18, 3) := by decide +kernel
theorem dX2_become_30 : decode cX2_become 30 = .ok (.invokestatic 25, 3) := by decide +kernel
theorem dX2_become_33 : decode cX2_become 33 = .ok (.aload_n 0, 1) := by decide +kernel
theorem dX2_become_34 : decode cX2_become 34 = .ok (.aload_n 1, 1) := by decide +kernel
theorem dX2_become_35 : decode cX2_become 35 = .ok (.getfield 29, 3) := by decide +kernel
theorem dX2_become_38 : decode cX2_become 38 = .ok (.putfield 29, 3) := by decide +kernel
theorem dX2_become_41 : decode cX2_become 41 = .ok (.aload_n 0, 1) := by decide +kernel
theorem dX2_become_42 : decode cX2_become 42 = .ok (.aload_n 1, 1) := by decide +kernel
theorem dX2_become_43 : decode cX2_become 43 = .ok (.getfield 32, 3) := by decide +kernel
theorem dX2_become_46 : decode cX2_become 46 = .ok (.putfield 32, 3) := by decide +kernel
theorem dX2_become_49 : decode cX2_become 49 = .ok (.aload_n 0, 1) := by decide +kernel
theorem dX2_become_50 : decode cX2_become 50 = .ok (.aload_n 1, 1) := by decide +kernel
theorem dX2_become_51 : decode cX2_become 51 = .ok (.getfield 35, 3) := by decide +kernel
theorem dX2_become_54 : decode cX2_become 54 = .ok (.putfield 35, 3) := by decide +kernel
theorem dX2_become_57 : decode cX2_become 57 = .ok (.aload_n 0, 1) := by decide +kernel
theorem dX2_become_58 : decode cX2_become 58 = .ok (.aload_n 1, 1) := by decide +kernel
theorem dX2_become_59 : decode cX2_become 59 = .ok (.getfield 38, 3) := by decide +kernel
theorem dX2_become_62 : decode cX2_become 62 = .ok (.putfield 38, 3) := by decide +kernel
theorem dX2_become_65 : decode cX2_become 65 = .ok (.aload_n 0, 1) := by decide +kernel
theorem dX2_become_66 : decode cX2_become 66 = .ok (.aload_n 1, 1) := by decide +kernel
theorem dX2_become_67 : decode cX2_become 67 = .ok (.getfield 21, 3) := by decide +kernel
theorem dX2_become_70 : decode cX2_become 70 = .ok (.putfield 21, 3) := by decide +kernel
theorem dX2_become_73 : decode cX2_become 73 = .ok (.return_, 1) := by decide +kernel
theorem dX2_hasPlace_0 : decode cX2_hasPlace 0 = .ok (.iload_n 1, 1) := by decide +kernel
theorem dX2_hasPlace_1 : decode cX2_hasPlace 1 = .ok (.ifCond .lt 15, 3) := by decide +kernel
theorem dX2_hasPlace_4 : decode cX2_hasPlace 4 = .ok (.iload_n 1, 1) := by decide +kernel
theorem dX2_hasPlace_5 : decode cX2_hasPlace 5 = .ok (.aload_n 0, 1) := by decide +kernel
theorem dX2_hasPlace_6 : decode cX2_hasPlace 6 = .ok (.getfield 29, 3) := by decide +kernel
theorem dX2_hasPlace_9 : decode cX2_hasPlace 9 = .ok (.if_icmp .ge 7, 3) := by decide +kernel
theorem dX2_hasPlace_12 : decode cX2_hasPlace 12 = .ok (.iconst 1, 1) := by decide +kernel
theorem dX2_hasPlace_13 : decode cX2_hasPlace 13 = .ok (.goto 4, 3) := by decide +kernel
theorem dX2_hasPlace_16 : decode cX2_hasPlace 16 = .ok (.iconst 0, 1) := by decide +kernel
theorem dX2_hasPlace_17 : decode cX2_hasPlace 17 = .ok (.ireturn, 1) := by decide +kernel
theorem dX2_signAt_0 : decode cX2_signAt 0 = .ok (.iload_n 1, 1) := by decide +kernel
theorem dX2_signAt_1 : decode cX2_signAt 1 = .ok (.ifCond .lt 29, 3) := by decide +kernel
theorem dX2_signAt_4 : decode cX2_signAt 4 = .ok (.iload_n 1, 1) := by decide +kernel
theorem dX2_signAt_5 : decode cX2_signAt 5 = .ok (.aload_n 0, 1) := by decide +kernel
theorem dX2_signAt_6 : decode cX2_signAt 6 = .ok (.getfield 29, 3) := by decide +kernel
theorem dX2_signAt_9 : decode cX2_signAt 9 = .ok (.if_icmp .ge 21, 3) := by decide +kernel
theorem dX2_signAt_12 : decode cX2_signAt 12 = .ok (.iload_n 1, 1) := by decide +kernel
theorem dX2_signAt_13 : decode cX2_signAt 13 = .ok (.aload_n 0, 1) := by decide +kernel
theorem dX2_signAt_14 : decode cX2_signAt 14 = .ok (.getfield 9, 3) := by decide +kernel
theorem dX2_signAt_17 : decode cX2_signAt 17 = .ok (.arraylength, 1) := by decide +kernel
theorem dX2_signAt_18 : decode cX2_signAt 18 = .ok (.if_icmp .ge 12, 3) := by decide +kernel
theorem dX2_signAt_21 : decode cX2_signAt 21 = .ok (.aload_n 0, 1) := by decide +kernel
theorem dX2_signAt_22 : decode cX2_signAt 22 = .ok (.getfield 9, 3) := by decide +kernel
theorem dX2_signAt_25 : decode cX2_signAt 25 = .ok (.iload_n 1, 1) := by decide +kernel
theorem dX2_signAt_26 : decode cX2_signAt 26 = .ok (.iaload, 1) := by decide +kernel
theorem dX2_signAt_27 : decode cX2_signAt 27 = .ok (.goto 4, 3) := by decide +kernel
theorem dX2_signAt_30 : decode cX2_signAt 30 = .ok (.iconst (-1), 1) := by decide +kernel
theorem dX2_signAt_31 : decode cX2_signAt 31 = .ok (.ireturn, 1) := by decide +kernel
set_option maxRecDepth 20000 in
theorem ggX2_changeSign_X5_lay : GoodIn wsX2_changeSign wsX5_lay := goodIn_r _ [4] (by decide +kernel) (by decide +kernel)
set_option maxRecDepth 20000 in
theorem gX2_changeSign_X5_lay_n41 : GoodIn wsX2_changeSign (wsX5_lay) := ggX2_changeSign_X5_lay
theorem dX2_changeSign_0 : decode cX2_changeSign 0 = .ok (.aload_n 0, 1) := by decide +kernel
theorem dX2_changeSign_1 : decode cX2_changeSign 1 = .ok (.getfield 9, 3) := by decide +kernel
theorem dX2_changeSign_4 : decode cX2_changeSign 4 = .ok (.iload_n 1, 1) := by decide +kernel
theorem dX2_changeSign_5 : decode cX2_changeSign 5 = .ok (.iload_n 2, 1) := by decide +kernel
theorem dX2_changeSign_6 : decode cX2_changeSign 6 = .ok (.invokestatic 41, 3) := by decide +kernel
theorem dX2_changeSign_9 : decode cX2_changeSign 9 = .ok (.return_, 1) := by decide +kernel
set_option maxRecDepth 20000 in
theorem ggX2_addSign_X5_lay : GoodIn wsX2_addSign wsX5_lay := goodIn_r _ [5] (by decide +kernel) (by decide +kernel)
set_option maxRecDepth 20000 in
theorem gX2_addSign_X5_lay_n41 : GoodIn wsX2_addSign (wsX5_lay) := ggX2_addSign_X5_lay
theorem dX2_addSign_0 : decode cX2_addSign 0 = .ok (.aload_n 0, 1) := by decide +kernel
theorem dX2_addSign_1 : decode cX2_addSign 1 = .ok (.getfield 9, 3) := by decide +kernel
theorem dX2_addSign_4 : decode cX2_addSign 4 = .ok (.aload_n 0, 1) := by decide +kernel
theorem dX2_addSign_5 : decode cX2_addSign 5 = .ok (.getfield 29, 3) := by decide +kernel
theorem dX2_addSign_8 : decode cX2_addSign 8 = .ok (.iload_n 1, 1) := by decide +kernel
theorem dX2_addSign_9 : decode cX2_addSign 9 = .ok (.invokestatic 41, 3) := by decide +kernel
theorem dX2_addSign_12 : decode cX2_addSign 12 = .ok (.aload_n 0, 1) := by decide +kernel
theorem dX2_addSign_13 : decode cX2_addSign 13 = .ok (.dup, 1) := by decide +kernel
theorem dX2_addSign_14 : decode cX2_addSign 14 = .ok (.getfield 29, 3) := by decide +kernel
theorem dX2_addSign_17 : decode cX2_addSign 17 = .ok (.iconst 1, 1) := by decide +kernel
theorem dX2_addSign_18 : decode cX2_addSign 18 = .ok (.iadd, 1) := by decide +kernel
theorem dX2_addSign_19 : decode cX2_addSign 19 = .ok (.putfield 29, 3) := by decide +kernel
theorem dX2_addSign_22 : decode cX2_addSign 22 = .ok (.return_, 1) := by decide +kernel
theorem dX2_hasNumber_0 : decode cX2_hasNumber 0 = .ok (.iload_n 1, 1) := by decide +kernel
theorem dX2_hasNumber_1 : decode cX2_hasNumber 1 = .ok (.ifCond .lt 15, 3) := by decide +kernel
theorem dX2_hasNumber_4 : decode cX2_hasNumber 4 = .ok (.iload_n 1, 1) := by decide +kernel
theorem dX2_hasNumber_5 : decode cX2_hasNumber 5 = .ok (.aload_n 0, 1) := by decide +kernel
theorem dX2_hasNumber_6 : decode cX2_hasNumber 6 = .ok (.getfield 32, 3) := by decide +kernel
theorem dX2_hasNumber_9 : decode cX2_hasNumber 9 = .ok (.if_icmp .ge 7, 3) := by decide +kernel
theorem dX2_hasNumber_12 : decode cX2_hasNumber 12 = .ok (.iconst 1, 1) := by decide +kernel
theorem dX2_hasNumber_13 : decode cX2_hasNumber 13 = .ok (.goto 4, 3) := by decide +kernel
theorem dX2_hasNumber_16 : decode cX2_hasNumber 16 = .ok (.iconst 0, 1) := by decide +kernel
theorem dX2_hasNumber_17 : decode cX2_hasNumber 17 = .ok (.ireturn, 1) := by decide +kernel
set_option maxRecDepth 20000 in
theorem ggX2_tenthsAt_X5_cellAt : GoodIn wsX2_tenthsAt wsX5_cellAt := goodIn_r _ [4] (by decide +kernel) (by decide +kernel)
set_option maxRecDepth 20000 in
theorem gX2_tenthsAt_X5_cellAt_n45 : GoodIn wsX2_tenthsAt (wsX5_cellAt) := ggX2_tenthsAt_X5_cellAt
theorem dX2_tenthsAt_0 : decode cX2_tenthsAt 0 = .ok (.aload_n 0, 1) := by decide +kernel
theorem dX2_tenthsAt_1 : decode cX2_tenthsAt 1 = .ok (.getfield 15, 3) := by decide +kernel
theorem dX2_tenthsAt_4 : decode cX2_tenthsAt 4 = .ok (.iload_n 1, 1) := by decide +kernel
theorem dX2_tenthsAt_5 : decode cX2_tenthsAt 5 = .ok (.invokestatic 45, 3) := by decide +kernel
theorem dX2_tenthsAt_8 : decode cX2_tenthsAt 8 = .ok (.ireturn, 1) := by decide +kernel
set_option maxRecDepth 20000 in
theorem ggX2_phaseAt_X5_cellAt : GoodIn wsX2_phaseAt wsX5_cellAt := goodIn_r _ [4] (by decide +kernel) (by decide +kernel)
set_option maxRecDepth 20000 in
theorem gX2_phaseAt_X5_cellAt_n45 : GoodIn wsX2_phaseAt (wsX5_cellAt) := ggX2_phaseAt_X5_cellAt
theorem dX2_phaseAt_0 : decode cX2_phaseAt 0 = .ok (.aload_n 0, 1) := by decide +kernel
theorem dX2_phaseAt_1 : decode cX2_phaseAt 1 = .ok (.getfield 18, 3) := by decide +kernel
theorem dX2_phaseAt_4 : decode cX2_phaseAt 4 = .ok (.iload_n 1, 1) := by decide +kernel
theorem dX2_phaseAt_5 : decode cX2_phaseAt 5 = .ok (.invokestatic 45, 3) := by decide +kernel
theorem dX2_phaseAt_8 : decode cX2_phaseAt 8 = .ok (.ireturn, 1) := by decide +kernel
set_option maxRecDepth 20000 in
theorem ggX2_hasPeriod_X2_tenthsAt : GoodIn wsX2_hasPeriod wsX2_tenthsAt := goodIn_r _ [6, 7, 8, 9, 10, 16, 17, 18, 19, 20, 21, 22, 23] (by decide +kernel) (by decide +kernel)
set_option maxRecDepth 20000 in
theorem gX2_hasPeriod_X2_tenthsAt : GoodIn wsX2_hasPeriod (wsV RX2 49 RX2 yX2_tenthsAt wsX2_tenthsAt) := goodIn_app (goodIn_of _ (by decide +kernel)) ggX2_hasPeriod_X2_tenthsAt
set_option maxRecDepth 20000 in
theorem ggX2_hasPeriod_X2_phaseAt : GoodIn wsX2_hasPeriod wsX2_phaseAt := goodIn_r _ [14, 15, 8, 9, 10, 16, 17, 18, 19, 20, 21, 22, 23] (by decide +kernel) (by decide +kernel)
set_option maxRecDepth 20000 in
theorem gX2_hasPeriod_X2_phaseAt : GoodIn wsX2_hasPeriod (wsV RX2 53 RX2 yX2_phaseAt wsX2_phaseAt) := goodIn_app (goodIn_of _ (by decide +kernel)) ggX2_hasPeriod_X2_phaseAt
theorem dX2_hasPeriod_0 : decode cX2_hasPeriod 0 = .ok (.iconst 0, 1) := by decide +kernel
theorem dX2_hasPeriod_1 : decode cX2_hasPeriod 1 = .ok (.istore_n 3, 1) := by decide +kernel
theorem dX2_hasPeriod_2 : decode cX2_hasPeriod 2 = .ok (.iload_n 3, 1) := by decide +kernel
theorem dX2_hasPeriod_3 : decode cX2_hasPeriod 3 = .ok (.aload_n 0, 1) := by decide +kernel
theorem dX2_hasPeriod_4 : decode cX2_hasPeriod 4 = .ok (.getfield 32, 3) := by decide +kernel
theorem dX2_hasPeriod_7 : decode cX2_hasPeriod 7 = .ok (.if_icmp .ge 29, 3) := by decide +kernel
theorem dX2_hasPeriod_10 : decode cX2_hasPeriod 10 = .ok (.aload_n 0, 1) := by decide +kernel
theorem dX2_hasPeriod_11 : decode cX2_hasPeriod 11 = .ok (.iload_n 3, 1) := by decide +kernel
theorem dX2_hasPeriod_12 : decode cX2_hasPeriod 12 = .ok (.invokevirtual 49, 3) := by decide +kernel
theorem dX2_hasPeriod_15 : decode cX2_hasPeriod 15 = .ok (.iload_n 1, 1) := by decide +kernel
theorem dX2_hasPeriod_16 : decode cX2_hasPeriod 16 = .ok (.if_icmp .ne 14, 3) := by decide +kernel
theorem dX2_hasPeriod_19 : decode cX2_hasPeriod 19 = .ok (.aload_n 0, 1) := by decide +kernel
theorem dX2_hasPeriod_20 : decode cX2_hasPeriod 20 = .ok (.iload_n 3, 1) := by decide +kernel
theorem dX2_hasPeriod_21 : decode cX2_hasPeriod 21 = .ok (.invokevirtual 53, 3) := by decide +kernel
theorem dX2_hasPeriod_24 : decode cX2_hasPeriod 24 = .ok (.iload_n 2, 1) := by decide +kernel
theorem dX2_hasPeriod_25 : decode cX2_hasPeriod 25 = .ok (.if_icmp .ne 5, 3) := by decide +kernel
theorem dX2_hasPeriod_28 : decode cX2_hasPeriod 28 = .ok (.iconst 1, 1) := by decide +kernel
theorem dX2_hasPeriod_29 : decode cX2_hasPeriod 29 = .ok (.ireturn, 1) := by decide +kernel
theorem dX2_hasPeriod_30 : decode cX2_hasPeriod 30 = .ok (.iinc 3 1, 3) := by decide +kernel
theorem dX2_hasPeriod_33 : decode cX2_hasPeriod 33 = .ok (.goto (-31), 3) := by decide +kernel
theorem dX2_hasPeriod_36 : decode cX2_hasPeriod 36 = .ok (.iconst 0, 1) := by decide +kernel
theorem dX2_hasPeriod_37 : decode cX2_hasPeriod 37 = .ok (.ireturn, 1) := by decide +kernel
set_option maxRecDepth 20000 in
theorem ggX2_addPeriod_X5_lay : GoodIn wsX2_addPeriod wsX5_lay := goodIn_r _ [6] (by decide +kernel) (by decide +kernel)
set_option maxRecDepth 20000 in
theorem gX2_addPeriod_X5_lay_n41 : GoodIn wsX2_addPeriod (wsX5_lay) := ggX2_addPeriod_X5_lay
theorem dX2_addPeriod_0 : decode cX2_addPeriod 0 = .ok (.aload_n 0, 1) := by decide +kernel
theorem dX2_addPeriod_1 : decode cX2_addPeriod 1 = .ok (.getfield 15, 3) := by decide +kernel
theorem dX2_addPeriod_4 : decode cX2_addPeriod 4 = .ok (.aload_n 0, 1) := by decide +kernel
theorem dX2_addPeriod_5 : decode cX2_addPeriod 5 = .ok (.getfield 32, 3) := by decide +kernel
theorem dX2_addPeriod_8 : decode cX2_addPeriod 8 = .ok (.iload_n 1, 1) := by decide +kernel
theorem dX2_addPeriod_9 : decode cX2_addPeriod 9 = .ok (.invokestatic 41, 3) := by decide +kernel
theorem dX2_addPeriod_12 : decode cX2_addPeriod 12 = .ok (.aload_n 0, 1) := by decide +kernel
theorem dX2_addPeriod_13 : decode cX2_addPeriod 13 = .ok (.getfield 18, 3) := by decide +kernel
theorem dX2_addPeriod_16 : decode cX2_addPeriod 16 = .ok (.aload_n 0, 1) := by decide +kernel
theorem dX2_addPeriod_17 : decode cX2_addPeriod 17 = .ok (.getfield 32, 3) := by decide +kernel
theorem dX2_addPeriod_20 : decode cX2_addPeriod 20 = .ok (.iload_n 2, 1) := by decide +kernel
theorem dX2_addPeriod_21 : decode cX2_addPeriod 21 = .ok (.invokestatic 41, 3) := by decide +kernel
theorem dX2_addPeriod_24 : decode cX2_addPeriod 24 = .ok (.aload_n 0, 1) := by decide +kernel
theorem dX2_addPeriod_25 : decode cX2_addPeriod 25 = .ok (.dup, 1) := by decide +kernel
theorem dX2_addPeriod_26 : decode cX2_addPeriod 26 = .ok (.getfield 32, 3) := by decide +kernel
theorem dX2_addPeriod_29 : decode cX2_addPeriod 29 = .ok (.iconst 1, 1) := by decide +kernel
theorem dX2_addPeriod_30 : decode cX2_addPeriod 30 = .ok (.iadd, 1) := by decide +kernel
theorem dX2_addPeriod_31 : decode cX2_addPeriod 31 = .ok (.putfield 32, 3) := by decide +kernel
theorem dX2_addPeriod_34 : decode cX2_addPeriod 34 = .ok (.return_, 1) := by decide +kernel
set_option maxRecDepth 20000 in
theorem ggX2_removePeriod_X2_tenthsAt : GoodIn wsX2_removePeriod wsX2_tenthsAt := goodIn_r _ [8, 2, 9, 10, 11, 18, 19, 20, 21, 22, 23, 24, 25] (by decide +kernel) (by decide +kernel)
set_option maxRecDepth 20000 in
theorem gX2_removePeriod_X2_tenthsAt : GoodIn wsX2_removePeriod (wsV RX2 49 RX2 yX2_tenthsAt wsX2_tenthsAt) := goodIn_app (goodIn_of _ (by decide +kernel)) ggX2_removePeriod_X2_tenthsAt
set_option maxRecDepth 20000 in
theorem ggX2_removePeriod_X5_lay : GoodIn wsX2_removePeriod wsX5_lay := goodIn_r _ [13] (by decide +kernel) (by decide +kernel)
set_option maxRecDepth 20000 in
theorem gX2_removePeriod_X5_lay_n41 : GoodIn wsX2_removePeriod (wsX5_lay) := ggX2_removePeriod_X5_lay
set_option maxRecDepth 20000 in
theorem ggX2_removePeriod_X2_phaseAt : GoodIn wsX2_removePeriod wsX2_phaseAt := goodIn_r _ [17, 3, 9, 10, 11, 18, 19, 20, 21, 22, 23, 24, 25] (by decide +kernel) (by decide +kernel)
set_option maxRecDepth 20000 in
theorem gX2_removePeriod_X2_phaseAt : GoodIn wsX2_removePeriod (wsV RX2 53 RX2 yX2_phaseAt wsX2_phaseAt) := goodIn_app (goodIn_of _ (by decide +kernel)) ggX2_removePeriod_X2_phaseAt
theorem dX2_removePeriod_0 : decode cX2_removePeriod 0 = .ok (.aload_n 0, 1) := by decide +kernel
theorem dX2_removePeriod_1 : decode cX2_removePeriod 1 = .ok (.dup, 1) := by decide +kernel
theorem dX2_removePeriod_2 : decode cX2_removePeriod 2 = .ok (.getfield 32, 3) := by decide +kernel
theorem dX2_removePeriod_5 : decode cX2_removePeriod 5 = .ok (.iconst 1, 1) := by decide +kernel
theorem dX2_removePeriod_6 : decode cX2_removePeriod 6 = .ok (.isub, 1) := by decide +kernel
theorem dX2_removePeriod_7 : decode cX2_removePeriod 7 = .ok (.putfield 32, 3) := by decide +kernel
theorem dX2_removePeriod_10 : decode cX2_removePeriod 10 = .ok (.iload_n 1, 1) := by decide +kernel
theorem dX2_removePeriod_11 : decode cX2_removePeriod 11 = .ok (.istore_n 2, 1) := by decide +kernel
theorem dX2_removePeriod_12 : decode cX2_removePeriod 12 = .ok (.iload_n 2, 1) := by decide +kernel
theorem dX2_removePeriod_13 : decode cX2_removePeriod 13 = .ok (.aload_n 0, 1) := by decide +kernel
theorem dX2_removePeriod_14 : decode cX2_removePeriod 14 = .ok (.getfield 32, 3) := by decide +kernel
theorem dX2_removePeriod_17 : decode cX2_removePeriod 17 = .ok (.if_icmp .ge 39, 3) := by decide +kernel
theorem dX2_removePeriod_20 : decode cX2_removePeriod 20 = .ok (.aload_n 0, 1) := by decide +kernel
theorem dX2_removePeriod_21 : decode cX2_removePeriod 21 = .ok (.getfield 15, 3) := by decide +kernel
theorem dX2_removePeriod_24 : decode cX2_removePeriod 24 = .ok (.iload_n 2, 1) := by decide +kernel
theorem dX2_removePeriod_25 : decode cX2_removePeriod 25 = .ok (.aload_n 0, 1) := by decide +kernel
theorem dX2_removePeriod_26 : decode cX2_removePeriod 26 = .ok (.iload_n 2, 1) := by decide +kernel
theorem dX2_removePeriod_27 : decode cX2_removePeriod 27 = .ok (.iconst 1, 1) := by decide +kernel
theorem dX2_removePeriod_28 : decode cX2_removePeriod 28 = .ok (.iadd, 1) := by decide +kernel
theorem dX2_removePeriod_29 : decode cX2_removePeriod 29 = .ok (.invokevirtual 49, 3) := by decide +kernel
theorem dX2_removePeriod_32 : decode cX2_removePeriod 32 = .ok (.invokestatic 41, 3) := by decide +kernel
theorem dX2_removePeriod_35 : decode cX2_removePeriod 35 = .ok (.aload_n 0, 1) := by decide +kernel
theorem dX2_removePeriod_36 : decode cX2_removePeriod 36 = .ok (.getfield 18, 3) := by decide +kernel
theorem dX2_removePeriod_39 : decode cX2_removePeriod 39 = .ok (.iload_n 2, 1) := by decide +kernel
theorem dX2_removePeriod_40 : decode cX2_removePeriod 40 = .ok (.aload_n 0, 1) := by decide +kernel
theorem dX2_removePeriod_41 : decode cX2_removePeriod 41 = .ok (.iload_n 2, 1) := by decide +kernel
theorem dX2_removePeriod_42 : decode cX2_removePeriod 42 = .ok (.iconst 1, 1) := by decide +kernel
theorem dX2_removePeriod_43 : decode cX2_removePeriod 43 = .ok (.iadd, 1) := by decide +kernel
theorem dX2_removePeriod_44 : decode cX2_removePeriod 44 = .ok (.invokevirtual 53, 3) := by decide +kernel
theorem dX2_removePeriod_47 : decode cX2_removePeriod 47 = .ok (.invokestatic 41, 3) := by decide +kernel
theorem dX2_removePeriod_50 : decode cX2_removePeriod 50 = .ok (.iinc 2 1, 3) := by decide +kernel
theorem dX2_removePeriod_53 : decode cX2_removePeriod 53 = .ok (.goto (-41), 3) := by decide +kernel
theorem dX2_removePeriod_56 : decode cX2_removePeriod 56 = .ok (.return_, 1) := by decide +kernel
theorem dX2_settingAt_0 : decode cX2_settingAt 0 = .ok (.iload_n 1, 1) := by decide +kernel
theorem dX2_settingAt_1 : decode cX2_settingAt 1 = .ok (.ifCond .ne 8, 3) := by decide +kernel
theorem dX2_settingAt_4 : decode cX2_settingAt 4 = .ok (.aload_n 0, 1) := by decide +kernel
theorem dX2_settingAt_5 : decode cX2_settingAt 5 = .ok (.getfield 35, 3) := by decide +kernel
theorem dX2_settingAt_8 : decode cX2_settingAt 8 = .ok (.ireturn, 1) := by decide +kernel
theorem dX2_settingAt_9 : decode cX2_settingAt 9 = .ok (.iload_n 1, 1) := by decide +kernel
theorem dX2_settingAt_10 : decode cX2_settingAt 10 = .ok (.iconst 1, 1) := by decide +kernel
theorem dX2_settingAt_11 : decode cX2_settingAt 11 = .ok (.if_icmp .ne 10, 3) := by decide +kernel
theorem dX2_settingAt_14 : decode cX2_settingAt 14 = .ok (.aload_n 0, 1) := by decide +kernel
theorem dX2_settingAt_15 : decode cX2_settingAt 15 = .ok (.getfield 38, 3) := by decide +kernel
theorem dX2_settingAt_18 : decode cX2_settingAt 18 = .ok (.goto 7, 3) := by decide +kernel
theorem dX2_settingAt_21 : decode cX2_settingAt 21 = .ok (.aload_n 0, 1) := by decide +kernel
theorem dX2_settingAt_22 : decode cX2_settingAt 22 = .ok (.getfield 21, 3) := by decide +kernel
theorem dX2_settingAt_25 : decode cX2_settingAt 25 = .ok (.ireturn, 1) := by decide +kernel
theorem dX2_changeSetting_0 : decode cX2_changeSetting 0 = .ok (.iload_n 1, 1) := by decide +kernel
theorem dX2_changeSetting_1 : decode cX2_changeSetting 1 = .ok (.ifCond .ne 11, 3) := by decide +kernel
theorem dX2_changeSetting_4 : decode cX2_changeSetting 4 = .ok (.aload_n 0, 1) := by decide +kernel
theorem dX2_changeSetting_5 : decode cX2_changeSetting 5 = .ok (.iload_n 2, 1) := by decide +kernel
theorem dX2_changeSetting_6 : decode cX2_changeSetting 6 = .ok (.putfield 35, 3) := by decide +kernel
theorem dX2_changeSetting_9 : decode cX2_changeSetting 9 = .ok (.goto 21, 3) := by decide +kernel
theorem dX2_changeSetting_12 : decode cX2_changeSetting 12 = .ok (.iload_n 1, 1) := by decide +kernel
theorem dX2_changeSetting_13 : decode cX2_changeSetting 13 = .ok (.iconst 1, 1) := by decide +kernel
theorem dX2_changeSetting_14 : decode cX2_changeSetting 14 = .ok (.if_icmp .ne 11, 3) := by decide +kernel
theorem dX2_changeSetting_17 : decode cX2_changeSetting 17 = .ok (.aload_n 0, 1) := by decide +kernel
theorem dX2_changeSetting_18 : decode cX2_changeSetting 18 = .ok (.iload_n 2, 1) := by decide +kernel
theorem dX2_changeSetting_19 : decode cX2_changeSetting 19 = .ok (.putfield 38, 3) := by decide +kernel
theorem dX2_changeSetting_22 : decode cX2_changeSetting 22 = .ok (.goto 8, 3) := by decide +kernel
theorem dX2_changeSetting_25 : decode cX2_changeSetting 25 = .ok (.aload_n 0, 1) := by decide +kernel
theorem dX2_changeSetting_26 : decode cX2_changeSetting 26 = .ok (.iload_n 2, 1) := by decide +kernel
theorem dX2_changeSetting_27 : decode cX2_changeSetting 27 = .ok (.putfield 21, 3) := by decide +kernel
theorem dX2_changeSetting_30 : decode cX2_changeSetting 30 = .ok (.return_, 1) := by decide +kernel
theorem dX2_windowStart_0 : decode cX2_windowStart 0 = .ok (.aload_n 0, 1) := by decide +kernel
theorem dX2_windowStart_1 : decode cX2_windowStart 1 = .ok (.getfield 38, 3) := by decide +kernel
theorem dX2_windowStart_4 : decode cX2_windowStart 4 = .ok (.ifCond .le 10, 3) := by decide +kernel
theorem dX2_windowStart_7 : decode cX2_windowStart 7 = .ok (.aload_n 0, 1) := by decide +kernel
theorem dX2_windowStart_8 : decode cX2_windowStart 8 = .ok (.getfield 35, 3) := by decide +kernel
theorem dX2_windowStart_11 : decode cX2_windowStart 11 = .ok (.goto 4, 3) := by decide +kernel
theorem dX2_windowStart_14 : decode cX2_windowStart 14 = .ok (.iconst 0, 1) := by decide +kernel
theorem dX2_windowStart_15 : decode cX2_windowStart 15 = .ok (.ireturn, 1) := by decide +kernel
theorem dX2_windowPlaces_0 : decode cX2_windowPlaces 0 = .ok (.aload_n 0, 1) := by decide +kernel
theorem dX2_windowPlaces_1 : decode cX2_windowPlaces 1 = .ok (.getfield 38, 3) := by decide +kernel
theorem dX2_windowPlaces_4 : decode cX2_windowPlaces 4 = .ok (.ifCond .ne 8, 3) := by decide +kernel
theorem dX2_windowPlaces_7 : decode cX2_windowPlaces 7 = .ok (.aload_n 0, 1) := by decide +kernel
theorem dX2_windowPlaces_8 : decode cX2_windowPlaces 8 = .ok (.getfield 29, 3) := by decide +kernel
theorem dX2_windowPlaces_11 : decode cX2_windowPlaces 11 = .ok (.ireturn, 1) := by decide +kernel
theorem dX2_windowPlaces_12 : decode cX2_windowPlaces 12 = .ok (.iconst 0, 1) := by decide +kernel
theorem dX2_windowPlaces_13 : decode cX2_windowPlaces 13 = .ok (.aload_n 0, 1) := by decide +kernel
theorem dX2_windowPlaces_14 : decode cX2_windowPlaces 14 = .ok (.getfield 38, 3) := by decide +kernel
theorem dX2_windowPlaces_17 : decode cX2_windowPlaces 17 = .ok (.aload_n 0, 1) := by decide +kernel
theorem dX2_windowPlaces_18 : decode cX2_windowPlaces 18 = .ok (.getfield 29, 3) := by decide +kernel
theorem dX2_windowPlaces_21 : decode cX2_windowPlaces 21 = .ok (.aload_n 0, 1) := by decide +kernel
theorem dX2_windowPlaces_22 : decode cX2_windowPlaces 22 = .ok (.getfield 35, 3) := by decide +kernel
theorem dX2_windowPlaces_25 : decode cX2_windowPlaces 25 = .ok (.isub, 1) := by decide +kernel
theorem dX2_windowPlaces_26 : decode cX2_windowPlaces 26 = .ok (.invokestatic 56, 3) := by decide +kernel
theorem dX2_windowPlaces_29 : decode cX2_windowPlaces 29 = .ok (.invokestatic 62, 3) := by decide +kernel
theorem dX2_windowPlaces_32 : decode cX2_windowPlaces 32 = .ok (.ireturn, 1) := by decide +kernel
set_option maxRecDepth 20000 in
theorem ggX2_windowEnd_X2_windowStart : GoodIn wsX2_windowEnd wsX2_windowStart := goodIn_r _ [5, 6, 7, 20, 21, 22, 23, 24, 25, 26, 27] (by decide +kernel) (by decide +kernel)
set_option maxRecDepth 20000 in
theorem gX2_windowEnd_X2_windowStart : GoodIn wsX2_windowEnd (wsV RX2 65 RX2 yX2_windowStart wsX2_windowStart) := goodIn_app (goodIn_of _ (by decide +kernel)) ggX2_windowEnd_X2_windowStart
set_option maxRecDepth 20000 in
theorem ggX2_windowEnd_X2_windowPlaces : GoodIn wsX2_windowEnd wsX2_windowPlaces := goodIn_r _ [11, 6, 12, 7, 13, 14, 15, 16, 17, 18, 19, 20, 21, 22, 23, 24, 25, 26, 27] (by decide +kernel) (by decide +kernel)
set_option maxRecDepth 20000 in
theorem gX2_windowEnd_X2_windowPlaces : GoodIn wsX2_windowEnd (wsV RX2 69 RX2 yX2_windowPlaces wsX2_windowPlaces) := goodIn_app (goodIn_of _ (by decide +kernel)) ggX2_windowEnd_X2_windowPlaces
theorem dX2_windowEnd_0 : decode cX2_windowEnd 0 = .ok (.aload_n 0, 1) := by decide +kernel
theorem dX2_windowEnd_1 : decode cX2_windowEnd 1 = .ok (.invokevirtual 65, 3) := by decide +kernel
theorem dX2_windowEnd_4 : decode cX2_windowEnd 4 = .ok (.aload_n 0, 1) := by decide +kernel
theorem dX2_windowEnd_5 : decode cX2_windowEnd 5 = .ok (.invokevirtual 69, 3) := by decide +kernel
theorem dX2_windowEnd_8 : decode cX2_windowEnd 8 = .ok (.iadd, 1) := by decide +kernel
theorem dX2_windowEnd_9 : decode cX2_windowEnd 9 = .ok (.ireturn, 1) := by decide +kernel
set_option maxRecDepth 20000 in
theorem ggX2_timesInWindow_X2_windowEnd : GoodIn wsX2_timesInWindow wsX2_windowEnd := goodIn_r _ [5, 6, 7, 8, 4, 9, 10, 11, 12, 13, 14, 15, 16, 17, 18, 19, 20, 21, 22, 23, 29, 30, 31, 32, 33, 34, 35, 36] (by decide +kernel) (by decide +kernel)
set_option maxRecDepth 20000 in
theorem gX2_timesInWindow_X2_windowEnd : GoodIn wsX2_timesInWindow (wsV RX2 72 RX2 yX2_windowEnd wsX2_windowEnd) := goodIn_app (goodIn_of _ (by decide +kernel)) ggX2_timesInWindow_X2_windowEnd
set_option maxRecDepth 20000 in
theorem ggX2_timesInWindow_X2_windowStart : GoodIn wsX2_timesInWindow wsX2_windowStart := goodIn_r _ [9, 10, 11, 29, 30, 31, 32, 33, 34, 35, 36] (by decide +kernel) (by decide +kernel)
set_option maxRecDepth 20000 in
theorem gX2_timesInWindow_X2_windowStart : GoodIn wsX2_timesInWindow (wsV RX2 65 RX2 yX2_windowStart wsX2_windowStart) := goodIn_app (goodIn_of _ (by decide +kernel)) ggX2_timesInWindow_X2_windowStart
set_option maxRecDepth 20000 in
theorem ggX2_timesInWindow_X2_signAt : GoodIn wsX2_timesInWindow wsX2_signAt := goodIn_r _ [27, 16, 28, 29, 30, 31, 32, 33, 34, 35, 36] (by decide +kernel) (by decide +kernel)
set_option maxRecDepth 20000 in
theorem gX2_timesInWindow_X2_signAt : GoodIn wsX2_timesInWindow (wsV RX2 75 RX2 yX2_signAt wsX2_signAt) := goodIn_app (goodIn_of _ (by decide +kernel)) ggX2_timesInWindow_X2_signAt
theorem dX2_timesInWindow_0 : decode cX2_timesInWindow 0 = .ok (.aload_n 0, 1) := by decide +kernel
theorem dX2_timesInWindow_1 : decode cX2_timesInWindow 1 = .ok (.invokevirtual 72, 3) := by decide +kernel
theorem dX2_timesInWindow_4 : decode cX2_timesInWindow 4 = .ok (.istore_n 2, 1) := by decide +kernel
theorem dX2_timesInWindow_5 : decode cX2_timesInWindow 5 = .ok (.iconst 0, 1) := by decide +kernel
theorem dX2_timesInWindow_6 : decode cX2_timesInWindow 6 = .ok (.istore_n 3, 1) := by decide +kernel
theorem dX2_timesInWindow_7 : decode cX2_timesInWindow 7 = .ok (.aload_n 0, 1) := by decide +kernel
theorem dX2_timesInWindow_8 : decode cX2_timesInWindow 8 = .ok (.invokevirtual 65, 3) := by decide +kernel
theorem dX2_timesInWindow_11 : decode cX2_timesInWindow 11 = .ok (.istore 4, 2) := by decide +kernel
theorem dX2_timesInWindow_13 : decode cX2_timesInWindow 13 = .ok (.iload 4, 2) := by decide +kernel
theorem dX2_timesInWindow_15 : decode cX2_timesInWindow 15 = .ok (.iload_n 2, 1) := by decide +kernel
theorem dX2_timesInWindow_16 : decode cX2_timesInWindow 16 = .ok (.if_icmp .ge 22, 3) := by decide +kernel
theorem dX2_timesInWindow_19 : decode cX2_timesInWindow 19 = .ok (.aload_n 0, 1) := by decide +kernel
theorem dX2_timesInWindow_20 : decode cX2_timesInWindow 20 = .ok (.iload 4, 2) := by decide +kernel
theorem dX2_timesInWindow_22 : decode cX2_timesInWindow 22 = .ok (.invokevirtual 75, 3) := by decide +kernel
theorem dX2_timesInWindow_25 : decode cX2_timesInWindow 25 = .ok (.iload_n 1, 1) := by decide +kernel
theorem dX2_timesInWindow_26 : decode cX2_timesInWindow 26 = .ok (.if_icmp .ne 6, 3) := by decide +kernel
theorem dX2_timesInWindow_29 : decode cX2_timesInWindow 29 = .ok (.iinc 3 1, 3) := by decide +kernel
theorem dX2_timesInWindow_32 : decode cX2_timesInWindow 32 = .ok (.iinc 4 1, 3) := by decide +kernel
theorem dX2_timesInWindow_35 : decode cX2_timesInWindow 35 = .ok (.goto (-22), 3) := by decide +kernel
theorem dX2_timesInWindow_38 : decode cX2_timesInWindow 38 = .ok (.iload_n 3, 1) := by decide +kernel
theorem dX2_timesInWindow_39 : decode cX2_timesInWindow 39 = .ok (.ireturn, 1) := by decide +kernel
set_option maxRecDepth 20000 in
theorem ggX2_commonSign_X2_timesInWindow : GoodIn wsX2_commonSign wsX2_timesInWindow := goodIn_r _ [5, 6, 7, 8, 4, 9, 10, 11, 12, 13, 14, 15, 16, 17, 18, 19, 20, 21, 22, 23, 24, 25, 26, 27, 28, 29, 30, 31, 32, 33, 34, 35, 36, 37, 38, 39, 40] (by decide +kernel) (by decide +kernel)
set_option maxRecDepth 20000 in
theorem gX2_commonSign_X2_timesInWindow : GoodIn wsX2_commonSign (wsV RX2 78 RX2 yX2_timesInWindow wsX2_timesInWindow) := goodIn_app (goodIn_of _ (by decide +kernel)) ggX2_commonSign_X2_timesInWindow
theorem dX2_commonSign_0 : decode cX2_commonSign 0 = .ok (.iconst (-1), 1) := by decide +kernel
theorem dX2_commonSign_1 : decode cX2_commonSign 1 = .ok (.istore_n 1, 1) := by decide +kernel
theorem dX2_commonSign_2 : decode cX2_commonSign 2 = .ok (.iconst 0, 1) := by decide +kernel
theorem dX2_commonSign_3 : decode cX2_commonSign 3 = .ok (.istore_n 2, 1) := by decide +kernel
theorem dX2_commonSign_4 : decode cX2_commonSign 4 = .ok (.iconst 0, 1) := by decide +kernel
theorem dX2_commonSign_5 : decode cX2_commonSign 5 = .ok (.istore_n 3, 1) := by decide +kernel
theorem dX2_commonSign_6 : decode cX2_commonSign 6 = .ok (.iload_n 3, 1) := by decide +kernel
theorem dX2_commonSign_7 : decode cX2_commonSign 7 = .ok (.iconst 4, 1) := by decide +kernel
theorem dX2_commonSign_8 : decode cX2_commonSign 8 = .ok (.if_icmp .ge 27, 3) := by decide +kernel
theorem dX2_commonSign_11 : decode cX2_commonSign 11 = .ok (.aload_n 0, 1) := by decide +kernel
theorem dX2_commonSign_12 : decode cX2_commonSign 12 = .ok (.iload_n 3, 1) := by decide +kernel
theorem dX2_commonSign_13 : decode cX2_commonSign 13 = .ok (.invokevirtual 78, 3) := by decide +kernel
theorem dX2_commonSign_16 : decode cX2_commonSign 16 = .ok (.istore 4, 2) := by decide +kernel
theorem dX2_commonSign_18 : decode cX2_commonSign 18 = .ok (.iload 4, 2) := by decide +kernel
theorem dX2_commonSign_20 : decode cX2_commonSign 20 = .ok (.iload_n 2, 1) := by decide +kernel
theorem dX2_commonSign_21 : decode cX2_commonSign 21 = .ok (.if_icmp .le 8, 3) := by decide +kernel
theorem dX2_commonSign_24 : decode cX2_commonSign 24 = .ok (.iload_n 3, 1) := by decide +kernel
theorem dX2_commonSign_25 : decode cX2_commonSign 25 = .ok (.istore_n 1, 1) := by decide +kernel
theorem dX2_commonSign_26 : decode cX2_commonSign 26 = .ok (.iload 4, 2) := by decide +kernel
theorem dX2_commonSign_28 : decode cX2_commonSign 28 = .ok (.istore_n 2, 1) := by decide +kernel
theorem dX2_commonSign_29 : decode cX2_commonSign 29 = .ok (.iinc 3 1, 3) := by decide +kernel
theorem dX2_commonSign_32 : decode cX2_commonSign 32 = .ok (.goto (-26), 3) := by decide +kernel
theorem dX2_commonSign_35 : decode cX2_commonSign 35 = .ok (.iload_n 1, 1) := by decide +kernel
theorem dX2_commonSign_36 : decode cX2_commonSign 36 = .ok (.ireturn, 1) := by decide +kernel
theorem dX3_init_0 : decode cX3_init 0 = .ok (.aload_n 0, 1) := by decide +kernel
theorem dX3_init_1 : decode cX3_init 1 = .ok (.invokespecial 3, 3) := by decide +kernel
theorem dX3_init_4 : decode cX3_init 4 = .ok (.aload_n 0, 1) := by decide +kernel
theorem dX3_init_5 : decode cX3_init 5 = .ok (.bipush 40, 2) := by decide +kernel
theorem dX3_init_7 : decode cX3_init 7 = .ok (.newarray .int, 2) := by decide +kernel
theorem dX3_init_9 : decode cX3_init 9 = .ok (.putfield 9, 3) := by decide +kernel
theorem dX3_init_12 : decode cX3_init 12 = .ok (.aload_n 0, 1) := by decide +kernel
theorem dX3_init_13 : decode cX3_init 13 = .ok (.sipush 240, 3) := by decide +kernel
theorem dX3_init_16 : decode cX3_init 16 = .ok (.newarray .int, 2) := by decide +kernel
theorem dX3_init_18 : decode cX3_init 18 = .ok (.putfield 15, 3) := by decide +kernel
theorem dX3_init_21 : decode cX3_init 21 = .ok (.aload_n 0, 1) := by decide +kernel
theorem dX3_init_22 : decode cX3_init 22 = .ok (.sipush 240, 3) := by decide +kernel
theorem dX3_init_25 : decode cX3_init 25 = .ok (.newarray .int, 2) := by decide +kernel
theorem dX3_init_27 : decode cX3_init 27 = .ok (.putfield 18, 3) := by decide +kernel
theorem dX3_init_30 : decode cX3_init 30 = .ok (.return_, 1) := by decide +kernel
set_option maxRecDepth 20000 in
theorem ggX3_read_J7_fill_53178 : GoodIn wsX3_read wsJ7_fill_53178 := goodIn_r _ [6] (by decide +kernel) (by decide +kernel)
set_option maxRecDepth 20000 in
theorem gX3_read_J7_fill_53178 : GoodIn wsX3_read (va_wsS RX3 21 yJ7_fill_53178 wsJ7_fill_53178) := goodIn_app (goodIn_of _ (by decide +kernel)) ggX3_read_J7_fill_53178
set_option maxRecDepth 20000 in
theorem ggX3_read_X3_readStrongSigns : GoodIn wsX3_read wsX3_readStrongSigns := goodIn_r _ [11, 12, 13, 14, 15, 16, 17, 18, 19, 20, 21, 22, 23, 24, 25, 26, 27, 28, 29, 30, 31, 32, 33, 34, 35, 36, 37, 38, 39, 40, 41, 42, 43, 44, 45, 46, 47, 48, 49, 50, 51, 52, 53, 54, 55, 56, 57, 58, 59, 60, 4, 5, 6, 61, 62, 63, 64, 65, 66, 67, 68, 69, 70, 71, 72, 73, 74, 75, 76, 77, 78, 79, 80, 81, 82, 83, 84, 85, 86, 87, 88, 89, 90, 91, 120, 121, 109, 110, 111, 112, 113, 114, 115, 116, 117, 118, 119] (by decide +kernel) (by decide +kernel)
set_option maxRecDepth 20000 in
theorem gX3_read_X3_readStrongSigns : GoodIn wsX3_read (wsV RX3 33 RX3 yX3_readStrongSigns wsX3_readStrongSigns) := goodIn_app (goodIn_of _ (by decide +kernel)) ggX3_read_X3_readStrongSigns
set_option maxRecDepth 20000 in
theorem ggX3_read_X3_tellBy : GoodIn wsX3_read wsX3_tellBy := goodIn_r _ [95, 12, 1, 2, 96, 19, 20, 21, 22, 23, 24, 25, 26, 97, 28, 29, 30, 31, 98, 99, 100, 101, 102, 37, 38, 39, 40, 41, 103, 43, 44, 45, 46, 47, 48, 49, 50, 51, 52, 53, 104, 63, 64, 105, 106, 107, 10, 108, 90, 91, 109, 110, 111, 112, 113, 114, 115, 116, 117, 118, 119] (by decide +kernel) (by decide +kernel)
set_option maxRecDepth 20000 in
theorem gX3_read_X3_tellBy : GoodIn wsX3_read (wsV RX3 37 RX3 yX3_tellBy wsX3_tellBy) := goodIn_app (goodIn_of _ (by decide +kernel)) ggX3_read_X3_tellBy
theorem dX3_read_0 : decode cX3_read 0 = .ok (.aload_n 0, 1) := by decide +kernel
theorem dX3_read_1 : decode cX3_read 1 = .ok (.getfield 15, 3) := by decide +kernel
theorem dX3_read_4 : decode cX3_read 4 = .ok (.iconst (-1), 1) := by decide +kernel
theorem dX3_read_5 : decode cX3_read 5 = .ok (.invokestatic 21, 3) := by decide +kernel
theorem dX3_read_8 : decode cX3_read 8 = .ok (.aload_n 0, 1) := by decide +kernel
theorem dX3_read_9 : decode cX3_read 9 = .ok (.getfield 18, 3) := by decide +kernel
theorem dX3_read_12 : decode cX3_read 12 = .ok (.iconst (-1), 1) := by decide +kernel
theorem dX3_read_13 : decode cX3_read 13 = .ok (.invokestatic 21, 3) := by decide +kernel
theorem dX3_read_16 : decode cX3_read 16 = .ok (.iconst 0, 1) := by decide +kernel
theorem dX3_read_17 : decode cX3_read 17 = .ok (.istore_n 3, 1) := by decide +kernel
theorem dX3_read_18 : decode cX3_read 18 = .ok (.iload_n 3, 1) := by decide +kernel
theorem dX3_read_19 : decode cX3_read 19 = .ok (.aload_n 1, 1) := by decide +kernel
theorem dX3_read_20 : decode cX3_read 20 = .ok (.getfield 27, 3) := by decide +kernel
theorem dX3_read_23 : decode cX3_read 23 = .ok (.if_icmp .ge 22, 3) := by decide +kernel
theorem dX3_read_26 : decode cX3_read 26 = .ok (.aload_n 0, 1) := by decide +kernel
theorem dX3_read_27 : decode cX3_read 27 = .ok (.aload_n 1, 1) := by decide +kernel
theorem dX3_read_28 : decode cX3_read 28 = .ok (.aload_n 2, 1) := by decide +kernel
theorem dX3_read_29 : decode cX3_read 29 = .ok (.iload_n 3, 1) := by decide +kernel
theorem dX3_read_30 : decode cX3_read 30 = .ok (.invokevirtual 33, 3) := by decide +kernel
theorem dX3_read_33 : decode cX3_read 33 = .ok (.aload_n 0, 1) := by decide +kernel
theorem dX3_read_34 : decode cX3_read 34 = .ok (.aload_n 1, 1) := by decide +kernel
theorem dX3_read_35 : decode cX3_read 35 = .ok (.iload_n 3, 1) := by decide +kernel
theorem dX3_read_36 : decode cX3_read 36 = .ok (.invokevirtual 37, 3) := by decide +kernel
theorem dX3_read_39 : decode cX3_read 39 = .ok (.iinc 3 1, 3) := by decide +kernel
theorem dX3_read_42 : decode cX3_read 42 = .ok (.goto (-24), 3) := by decide +kernel
theorem dX3_read_45 : decode cX3_read 45 = .ok (.return_, 1) := by decide +kernel
set_option maxRecDepth 20000 in
theorem ggX3_readStrongSigns_X0_takeKept : GoodIn wsX3_readStrongSigns wsX0_takeKept := goodIn_r _ [6, 7, 8, 9, 10, 11, 12, 13, 14, 15, 16, 17, 18, 19, 20, 21, 22, 23, 5, 24, 25, 26, 27, 28, 29, 30, 31, 32, 33, 34, 35, 36, 37, 38, 39, 40, 41, 42, 43, 44, 45, 46, 47, 48, 49, 50, 51, 52, 53, 54, 55, 56, 57, 58, 59, 60, 61, 89, 90, 91, 92, 93, 94, 95, 96, 84, 85] (by decide +kernel) (by decide +kernel)
set_option maxRecDepth 20000 in
theorem gX3_readStrongSigns_X0_takeKept : GoodIn wsX3_readStrongSigns (wsV RX3 41 RX0 yX0_takeKept wsX0_takeKept) := goodIn_app (goodIn_of _ (by decide +kernel)) ggX3_readStrongSigns_X0_takeKept
set_option maxRecDepth 20000 in
theorem ggX3_readStrongSigns_X0_strongSignOf : GoodIn wsX3_readStrongSigns wsX0_strongSignOf := goodIn_r _ [65, 66, 67, 68, 5, 69, 70, 71, 72, 73, 47, 74, 75, 76, 77, 78, 79, 80, 81, 84, 85] (by decide +kernel) (by decide +kernel)
set_option maxRecDepth 20000 in
theorem gX3_readStrongSigns_X0_strongSignOf : GoodIn wsX3_readStrongSigns (wsV RX3 52 RX0 yX0_strongSignOf wsX0_strongSignOf) := goodIn_app (goodIn_of _ (by decide +kernel)) ggX3_readStrongSigns_X0_strongSignOf
set_option maxRecDepth 20000 in
theorem ggX3_readStrongSigns_X5_lay : GoodIn wsX3_readStrongSigns wsX5_lay := goodIn_r _ [83] (by decide +kernel) (by decide +kernel)
set_option maxRecDepth 20000 in
theorem gX3_readStrongSigns_X5_lay_n56 : GoodIn wsX3_readStrongSigns (wsX5_lay) := ggX3_readStrongSigns_X5_lay
theorem dX3_readStrongSigns_0 : decode cX3_readStrongSigns 0 = .ok (.aload_n 2, 1) := by decide +kernel
theorem dX3_readStrongSigns_1 : decode cX3_readStrongSigns 1 = .ok (.aload_n 1, 1) := by decide +kernel
theorem dX3_readStrongSigns_2 : decode cX3_readStrongSigns 2 = .ok (.iload_n 3, 1) := by decide +kernel
theorem dX3_readStrongSigns_3 : decode cX3_readStrongSigns 3 = .ok (.invokevirtual 41, 3) := by decide +kernel
theorem dX3_readStrongSigns_6 : decode cX3_readStrongSigns 6 = .ok (.iconst 0, 1) := by decide +kernel
theorem dX3_readStrongSigns_7 : decode cX3_readStrongSigns 7 = .ok (.istore 4, 2) := by decide +kernel
theorem dX3_readStrongSigns_9 : decode cX3_readStrongSigns 9 = .ok (.iload 4, 2) := by decide +kernel
theorem dX3_readStrongSigns_11 : decode cX3_readStrongSigns 11 = .ok (.aload_n 2, 1) := by decide +kernel
theorem dX3_readStrongSigns_12 : decode cX3_readStrongSigns 12 = .ok (.getfield 46, 3) := by decide +kernel
theorem dX3_readStrongSigns_15 : decode cX3_readStrongSigns 15 = .ok (.if_icmp .ge 28, 3) := by decide +kernel
theorem dX3_readStrongSigns_18 : decode cX3_readStrongSigns 18 = .ok (.aload_n 0, 1) := by decide +kernel
theorem dX3_readStrongSigns_19 : decode cX3_readStrongSigns 19 = .ok (.getfield 9, 3) := by decide +kernel
theorem dX3_readStrongSigns_22 : decode cX3_readStrongSigns 22 = .ok (.iload 4, 2) := by decide +kernel
theorem dX3_readStrongSigns_24 : decode cX3_readStrongSigns 24 = .ok (.aload_n 2, 1) := by decide +kernel
theorem dX3_readStrongSigns_25 : decode cX3_readStrongSigns 25 = .ok (.iload 4, 2) := by decide +kernel
theorem dX3_readStrongSigns_27 : decode cX3_readStrongSigns 27 = .ok (.aload_n 1, 1) := by decide +kernel
theorem dX3_readStrongSigns_28 : decode cX3_readStrongSigns 28 = .ok (.getfield 49, 3) := by decide +kernel
theorem dX3_readStrongSigns_31 : decode cX3_readStrongSigns 31 = .ok (.invokevirtual 52, 3) := by decide +kernel
theorem dX3_readStrongSigns_34 : decode cX3_readStrongSigns 34 = .ok (.invokestatic 56, 3) := by decide +kernel
theorem dX3_readStrongSigns_37 : decode cX3_readStrongSigns 37 = .ok (.iinc 4 1, 3) := by decide +kernel
theorem dX3_readStrongSigns_40 : decode cX3_readStrongSigns 40 = .ok (.goto (-31), 3) := by decide +kernel
theorem dX3_readStrongSigns_43 : decode cX3_readStrongSigns 43 = .ok (.return_, 1) := by decide +kernel
set_option maxRecDepth 20000 in
theorem ggX3_tellBy_X2_tenthsAt : GoodIn wsX3_tellBy wsX2_tenthsAt := goodIn_r _ [8, 9, 10, 11, 12, 53, 54, 55, 56, 57, 58, 59, 60] (by decide +kernel) (by decide +kernel)
set_option maxRecDepth 20000 in
theorem gX3_tellBy_X2_tenthsAt : GoodIn wsX3_tellBy (wsV RX3 60 RX2 yX2_tenthsAt wsX2_tenthsAt) := goodIn_app (goodIn_of _ (by decide +kernel)) ggX3_tellBy_X2_tenthsAt
set_option maxRecDepth 20000 in
theorem ggX3_tellBy_X2_phaseAt : GoodIn wsX3_tellBy wsX2_phaseAt := goodIn_r _ [16, 17, 10, 11, 12, 53, 54, 55, 56, 57, 58, 59, 60] (by decide +kernel) (by decide +kernel)
set_option maxRecDepth 20000 in
theorem gX3_tellBy_X2_phaseAt : GoodIn wsX3_tellBy (wsV RX3 64 RX2 yX2_phaseAt wsX2_phaseAt) := goodIn_app (goodIn_of _ (by decide +kernel)) ggX3_tellBy_X2_phaseAt
set_option maxRecDepth 20000 in
theorem ggX3_tellBy_X2_windowEnd : GoodIn wsX3_tellBy wsX2_windowEnd := goodIn_r _ [21, 22, 23, 24, 7, 25, 26, 27, 28, 29, 30, 31, 32, 33, 34, 35, 36, 37, 38, 39, 53, 54, 55, 56, 57, 58, 59, 60] (by decide +kernel) (by decide +kernel)
set_option maxRecDepth 20000 in
theorem gX3_tellBy_X2_windowEnd : GoodIn wsX3_tellBy (wsV RX3 67 RX2 yX2_windowEnd wsX2_windowEnd) := goodIn_app (goodIn_of _ (by decide +kernel)) ggX3_tellBy_X2_windowEnd
set_option maxRecDepth 20000 in
theorem ggX3_tellBy_X2_windowStart : GoodIn wsX3_tellBy wsX2_windowStart := goodIn_r _ [25, 26, 27, 53, 54, 55, 56, 57, 58, 59, 60] (by decide +kernel) (by decide +kernel)
set_option maxRecDepth 20000 in
theorem gX3_tellBy_X2_windowStart : GoodIn wsX3_tellBy (wsV RX3 71 RX2 yX2_windowStart wsX2_windowStart) := goodIn_app (goodIn_of _ (by decide +kernel)) ggX3_tellBy_X2_windowStart
set_option maxRecDepth 20000 in
theorem ggX3_tellBy_X5_classOf : GoodIn wsX3_tellBy wsX5_classOf := goodIn_r _ [42] (by decide +kernel) (by decide +kernel)
set_option maxRecDepth 20000 in
theorem gX3_tellBy_X5_classOf_n74 : GoodIn wsX3_tellBy (wsX5_classOf) := ggX3_tellBy_X5_classOf
set_option maxRecDepth 20000 in
theorem ggX3_tellBy_X5_cellAt : GoodIn wsX3_tellBy wsX5_cellAt := goodIn_r _ [12] (by decide +kernel) (by decide +kernel)
set_option maxRecDepth 20000 in
theorem gX3_tellBy_X5_cellAt_n78 : GoodIn wsX3_tellBy (wsX5_cellAt) := ggX3_tellBy_X5_cellAt
set_option maxRecDepth 20000 in
theorem ggX3_tellBy_X3_tellerAt : GoodIn wsX3_tellBy wsX3_tellerAt := goodIn_r _ [47, 2, 10, 11, 12, 50, 51, 52] (by decide +kernel) (by decide +kernel)
set_option maxRecDepth 20000 in
theorem gX3_tellBy_X3_tellerAt : GoodIn wsX3_tellBy (wsV RX3 82 RX3 yX3_tellerAt wsX3_tellerAt) := goodIn_app (goodIn_of _ (by decide +kernel)) ggX3_tellBy_X3_tellerAt
set_option maxRecDepth 20000 in
theorem ggX3_tellBy_X5_lay : GoodIn wsX3_tellBy wsX5_lay := goodIn_r _ [49] (by decide +kernel) (by decide +kernel)
set_option maxRecDepth 20000 in
theorem gX3_tellBy_X5_lay_n56 : GoodIn wsX3_tellBy (wsX5_lay) := ggX3_tellBy_X5_lay
theorem dX3_tellBy_0 : decode cX3_tellBy 0 = .ok (.aload_n 1, 1) := by decide +kernel
theorem dX3_tellBy_1 : decode cX3_tellBy 1 = .ok (.iload_n 2, 1) := by decide +kernel
theorem dX3_tellBy_2 : decode cX3_tellBy 2 = .ok (.invokevirtual 60, 3) := by decide +kernel
theorem dX3_tellBy_5 : decode cX3_tellBy 5 = .ok (.istore_n 3, 1) := by decide +kernel
theorem dX3_tellBy_6 : decode cX3_tellBy 6 = .ok (.aload_n 1, 1) := by decide +kernel
theorem dX3_tellBy_7 : decode cX3_tellBy 7 = .ok (.iload_n 2, 1) := by decide +kernel
theorem dX3_tellBy_8 : decode cX3_tellBy 8 = .ok (.invokevirtual 64, 3) := by decide +kernel
theorem dX3_tellBy_11 : decode cX3_tellBy 11 = .ok (.istore 4, 2) := by decide +kernel
theorem dX3_tellBy_13 : decode cX3_tellBy 13 = .ok (.aload_n 1, 1) := by decide +kernel
theorem dX3_tellBy_14 : decode cX3_tellBy 14 = .ok (.invokevirtual 67, 3) := by decide +kernel
theorem dX3_tellBy_17 : decode cX3_tellBy 17 = .ok (.istore 5, 2) := by decide +kernel
theorem dX3_tellBy_19 : decode cX3_tellBy 19 = .ok (.aload_n 1, 1) := by decide +kernel
theorem dX3_tellBy_20 : decode cX3_tellBy 20 = .ok (.invokevirtual 71, 3) := by decide +kernel
theorem dX3_tellBy_23 : decode cX3_tellBy 23 = .ok (.istore 6, 2) := by decide +kernel
theorem dX3_tellBy_25 : decode cX3_tellBy 25 = .ok (.iload 6, 2) := by decide +kernel
theorem dX3_tellBy_27 : decode cX3_tellBy 27 = .ok (.iload 5, 2) := by decide +kernel
theorem dX3_tellBy_29 : decode cX3_tellBy 29 = .ok (.if_icmp .ge 63, 3) := by decide +kernel
theorem dX3_tellBy_32 : decode cX3_tellBy 32 = .ok (.aload_n 0, 1) := by decide +kernel
theorem dX3_tellBy_33 : decode cX3_tellBy 33 = .ok (.getfield 9, 3) := by decide +kernel
theorem dX3_tellBy_36 : decode cX3_tellBy 36 = .ok (.iload 6, 2) := by decide +kernel
theorem dX3_tellBy_38 : decode cX3_tellBy 38 = .ok (.iload_n 3, 1) := by decide +kernel
theorem dX3_tellBy_39 : decode cX3_tellBy 39 = .ok (.iload 4, 2) := by decide +kernel
theorem dX3_tellBy_41 : decode cX3_tellBy 41 = .ok (.invokestatic 74, 3) := by decide +kernel
theorem dX3_tellBy_44 : decode cX3_tellBy 44 = .ok (.invokestatic 78, 3) := by decide +kernel
theorem dX3_tellBy_47 : decode cX3_tellBy 47 = .ok (.istore 7, 2) := by decide +kernel
theorem dX3_tellBy_49 : decode cX3_tellBy 49 = .ok (.iload 7, 2) := by decide +kernel
theorem dX3_tellBy_51 : decode cX3_tellBy 51 = .ok (.iconst (-1), 1) := by decide +kernel
theorem dX3_tellBy_52 : decode cX3_tellBy 52 = .ok (.if_icmp .eq 34, 3) := by decide +kernel
theorem dX3_tellBy_55 : decode cX3_tellBy 55 = .ok (.aload_n 0, 1) := by decide +kernel
theorem dX3_tellBy_56 : decode cX3_tellBy 56 = .ok (.iload 6, 2) := by decide +kernel
theorem dX3_tellBy_58 : decode cX3_tellBy 58 = .ok (.invokevirtual 82, 3) := by decide +kernel
theorem dX3_tellBy_61 : decode cX3_tellBy 61 = .ok (.iconst (-1), 1) := by decide +kernel
theorem dX3_tellBy_62 : decode cX3_tellBy 62 = .ok (.if_icmp .ne 24, 3) := by decide +kernel
theorem dX3_tellBy_65 : decode cX3_tellBy 65 = .ok (.aload_n 0, 1) := by decide +kernel
theorem dX3_tellBy_66 : decode cX3_tellBy 66 = .ok (.getfield 15, 3) := by decide +kernel
theorem dX3_tellBy_69 : decode cX3_tellBy 69 = .ok (.iload 6, 2) := by decide +kernel
theorem dX3_tellBy_71 : decode cX3_tellBy 71 = .ok (.iload_n 2, 1) := by decide +kernel
theorem dX3_tellBy_72 : decode cX3_tellBy 72 = .ok (.invokestatic 56, 3) := by decide +kernel
theorem dX3_tellBy_75 : decode cX3_tellBy 75 = .ok (.aload_n 0, 1) := by decide +kernel
theorem dX3_tellBy_76 : decode cX3_tellBy 76 = .ok (.getfield 18, 3) := by decide +kernel
theorem dX3_tellBy_79 : decode cX3_tellBy 79 = .ok (.iload 6, 2) := by decide +kernel
theorem dX3_tellBy_81 : decode cX3_tellBy 81 = .ok (.iload 7, 2) := by decide +kernel
theorem dX3_tellBy_83 : decode cX3_tellBy 83 = .ok (.invokestatic 56, 3) := by decide +kernel
theorem dX3_tellBy_86 : decode cX3_tellBy 86 = .ok (.iinc 6 1, 3) := by decide +kernel
theorem dX3_tellBy_89 : decode cX3_tellBy 89 = .ok (.goto (-64), 3) := by decide +kernel
theorem dX3_tellBy_92 : decode cX3_tellBy 92 = .ok (.return_, 1) := by decide +kernel
set_option maxRecDepth 20000 in
theorem ggX3_tellerAt_X5_cellAt : GoodIn wsX3_tellerAt wsX5_cellAt := goodIn_r _ [4] (by decide +kernel) (by decide +kernel)
set_option maxRecDepth 20000 in
theorem gX3_tellerAt_X5_cellAt_n78 : GoodIn wsX3_tellerAt (wsX5_cellAt) := ggX3_tellerAt_X5_cellAt
theorem dX3_tellerAt_0 : decode cX3_tellerAt 0 = .ok (.aload_n 0, 1) := by decide +kernel
theorem dX3_tellerAt_1 : decode cX3_tellerAt 1 = .ok (.getfield 15, 3) := by decide +kernel
theorem dX3_tellerAt_4 : decode cX3_tellerAt 4 = .ok (.iload_n 1, 1) := by decide +kernel
theorem dX3_tellerAt_5 : decode cX3_tellerAt 5 = .ok (.invokestatic 78, 3) := by decide +kernel
theorem dX3_tellerAt_8 : decode cX3_tellerAt 8 = .ok (.ireturn, 1) := by decide +kernel
set_option maxRecDepth 20000 in
theorem ggX3_signAt_X5_cellAt : GoodIn wsX3_signAt wsX5_cellAt := goodIn_r _ [4] (by decide +kernel) (by decide +kernel)
set_option maxRecDepth 20000 in
theorem gX3_signAt_X5_cellAt_n78 : GoodIn wsX3_signAt (wsX5_cellAt) := ggX3_signAt_X5_cellAt
theorem dX3_signAt_0 : decode cX3_signAt 0 = .ok (.aload_n 0, 1) := by decide +kernel
theorem dX3_signAt_1 : decode cX3_signAt 1 = .ok (.getfield 18, 3) := by decide +kernel
theorem dX3_signAt_4 : decode cX3_signAt 4 = .ok (.iload_n 1, 1) := by decide +kernel
theorem dX3_signAt_5 : decode cX3_signAt 5 = .ok (.invokestatic 78, 3) := by decide +kernel
theorem dX3_signAt_8 : decode cX3_signAt 8 = .ok (.ireturn, 1) := by decide +kernel
set_option maxRecDepth 20000 in
theorem ggX3_isExplained_X3_signAt : GoodIn wsX3_isExplained wsX3_signAt := goodIn_r _ [5, 6, 7, 8, 9, 17, 18, 19] (by decide +kernel) (by decide +kernel)
set_option maxRecDepth 20000 in
theorem gX3_isExplained_X3_signAt : GoodIn wsX3_isExplained (wsV RX3 85 RX3 yX3_signAt wsX3_signAt) := goodIn_app (goodIn_of _ (by decide +kernel)) ggX3_isExplained_X3_signAt
set_option maxRecDepth 20000 in
theorem ggX3_isExplained_X2_signAt : GoodIn wsX3_isExplained wsX2_signAt := goodIn_r _ [14, 15, 16, 20, 21, 22, 23, 24, 25, 26, 27] (by decide +kernel) (by decide +kernel)
set_option maxRecDepth 20000 in
theorem gX3_isExplained_X2_signAt : GoodIn wsX3_isExplained (wsV RX3 88 RX2 yX2_signAt wsX2_signAt) := goodIn_app (goodIn_of _ (by decide +kernel)) ggX3_isExplained_X2_signAt
theorem dX3_isExplained_0 : decode cX3_isExplained 0 = .ok (.aload_n 0, 1) := by decide +kernel
theorem dX3_isExplained_1 : decode cX3_isExplained 1 = .ok (.iload_n 2, 1) := by decide +kernel
theorem dX3_isExplained_2 : decode cX3_isExplained 2 = .ok (.invokevirtual 85, 3) := by decide +kernel
theorem dX3_isExplained_5 : decode cX3_isExplained 5 = .ok (.istore_n 3, 1) := by decide +kernel
theorem dX3_isExplained_6 : decode cX3_isExplained 6 = .ok (.iload_n 3, 1) := by decide +kernel
theorem dX3_isExplained_7 : decode cX3_isExplained 7 = .ok (.iconst (-1), 1) := by decide +kernel
theorem dX3_isExplained_8 : decode cX3_isExplained 8 = .ok (.if_icmp .eq 16, 3) := by decide +kernel
theorem dX3_isExplained_11 : decode cX3_isExplained 11 = .ok (.iload_n 3, 1) := by decide +kernel
theorem dX3_isExplained_12 : decode cX3_isExplained 12 = .ok (.aload_n 1, 1) := by decide +kernel
theorem dX3_isExplained_13 : decode cX3_isExplained 13 = .ok (.iload_n 2, 1) := by decide +kernel
theorem dX3_isExplained_14 : decode cX3_isExplained 14 = .ok (.invokevirtual 88, 3) := by decide +kernel
theorem dX3_isExplained_17 : decode cX3_isExplained 17 = .ok (.if_icmp .ne 7, 3) := by decide +kernel
theorem dX3_isExplained_20 : decode cX3_isExplained 20 = .ok (.iconst 1, 1) := by decide +kernel
theorem dX3_isExplained_21 : decode cX3_isExplained 21 = .ok (.goto 4, 3) := by decide +kernel
theorem dX3_isExplained_24 : decode cX3_isExplained 24 = .ok (.iconst 0, 1) := by decide +kernel
theorem dX3_isExplained_25 : decode cX3_isExplained 25 = .ok (.ireturn, 1) := by decide +kernel
set_option maxRecDepth 20000 in
theorem ggX3_explained_X2_windowEnd : GoodIn wsX3_explained wsX2_windowEnd := goodIn_r _ [5, 6, 7, 8, 4, 9, 10, 11, 12, 13, 14, 15, 16, 17, 18, 19, 20, 21, 22, 23, 43, 44, 45, 46, 47, 48, 49, 50] (by decide +kernel) (by decide +kernel)
set_option maxRecDepth 20000 in
theorem gX3_explained_X2_windowEnd : GoodIn wsX3_explained (wsV RX3 67 RX2 yX2_windowEnd wsX2_windowEnd) := goodIn_app (goodIn_of _ (by decide +kernel)) ggX3_explained_X2_windowEnd
set_option maxRecDepth 20000 in
theorem ggX3_explained_X2_windowStart : GoodIn wsX3_explained wsX2_windowStart := goodIn_r _ [9, 10, 11, 43, 44, 45, 46, 47, 48, 49, 50] (by decide +kernel) (by decide +kernel)
set_option maxRecDepth 20000 in
theorem gX3_explained_X2_windowStart : GoodIn wsX3_explained (wsV RX3 71 RX2 yX2_windowStart wsX2_windowStart) := goodIn_app (goodIn_of _ (by decide +kernel)) ggX3_explained_X2_windowStart
set_option maxRecDepth 20000 in
theorem ggX3_explained_X3_isExplained : GoodIn wsX3_explained wsX3_isExplained := goodIn_r _ [29, 30, 31, 32, 28, 33, 34, 35, 36, 37, 38, 39, 40, 4, 41, 16, 42, 51, 52, 53, 43, 44, 45, 46, 47, 48, 49, 50] (by decide +kernel) (by decide +kernel)
set_option maxRecDepth 20000 in
theorem gX3_explained_X3_isExplained : GoodIn wsX3_explained (wsV RX3 89 RX3 yX3_isExplained wsX3_isExplained) := goodIn_app (goodIn_of _ (by decide +kernel)) ggX3_explained_X3_isExplained
theorem dX3_explained_0 : decode cX3_explained 0 = .ok (.aload_n 1, 1) := by decide +kernel
theorem dX3_explained_1 : decode cX3_explained 1 = .ok (.invokevirtual 67, 3) := by decide +kernel
theorem dX3_explained_4 : decode cX3_explained 4 = .ok (.istore_n 2, 1) := by decide +kernel
theorem dX3_explained_5 : decode cX3_explained 5 = .ok (.iconst 0, 1) := by decide +kernel
theorem dX3_explained_6 : decode cX3_explained 6 = .ok (.istore_n 3, 1) := by decide +kernel
theorem dX3_explained_7 : decode cX3_explained 7 = .ok (.aload_n 1, 1) := by decide +kernel
theorem dX3_explained_8 : decode cX3_explained 8 = .ok (.invokevirtual 71, 3) := by decide +kernel
theorem dX3_explained_11 : decode cX3_explained 11 = .ok (.istore 4, 2) := by decide +kernel
theorem dX3_explained_13 : decode cX3_explained 13 = .ok (.iload 4, 2) := by decide +kernel
theorem dX3_explained_15 : decode cX3_explained 15 = .ok (.iload_n 2, 1) := by decide +kernel
theorem dX3_explained_16 : decode cX3_explained 16 = .ok (.if_icmp .ge 22, 3) := by decide +kernel
theorem dX3_explained_19 : decode cX3_explained 19 = .ok (.aload_n 0, 1) := by decide +kernel
theorem dX3_explained_20 : decode cX3_explained 20 = .ok (.aload_n 1, 1) := by decide +kernel
theorem dX3_explained_21 : decode cX3_explained 21 = .ok (.iload 4, 2) := by decide +kernel
theorem dX3_explained_23 : decode cX3_explained 23 = .ok (.invokevirtual 89, 3) := by decide +kernel
theorem dX3_explained_26 : decode cX3_explained 26 = .ok (.ifCond .eq 6, 3) := by decide +kernel
theorem dX3_explained_29 : decode cX3_explained 29 = .ok (.iinc 3 1, 3) := by decide +kernel
theorem dX3_explained_32 : decode cX3_explained 32 = .ok (.iinc 4 1, 3) := by decide +kernel
theorem dX3_explained_35 : decode cX3_explained 35 = .ok (.goto (-22), 3) := by decide +kernel
theorem dX3_explained_38 : decode cX3_explained 38 = .ok (.iload_n 3, 1) := by decide +kernel
theorem dX3_explained_39 : decode cX3_explained 39 = .ok (.ireturn, 1) := by decide +kernel
set_option maxRecDepth 20000 in
theorem ggX3_placesToldBy_X2_windowEnd : GoodIn wsX3_placesToldBy wsX2_windowEnd := goodIn_r _ [5, 6, 7, 8, 4, 9, 10, 11, 12, 13, 14, 15, 16, 17, 18, 19, 20, 21, 22, 23, 34, 35, 36, 37, 38, 39, 40, 41] (by decide +kernel) (by decide +kernel)
set_option maxRecDepth 20000 in
theorem gX3_placesToldBy_X2_windowEnd : GoodIn wsX3_placesToldBy (wsV RX3 67 RX2 yX2_windowEnd wsX2_windowEnd) := goodIn_app (goodIn_of _ (by decide +kernel)) ggX3_placesToldBy_X2_windowEnd
set_option maxRecDepth 20000 in
theorem ggX3_placesToldBy_X2_windowStart : GoodIn wsX3_placesToldBy wsX2_windowStart := goodIn_r _ [9, 10, 11, 34, 35, 36, 37, 38, 39, 40, 41] (by decide +kernel) (by decide +kernel)
set_option maxRecDepth 20000 in
theorem gX3_placesToldBy_X2_windowStart : GoodIn wsX3_placesToldBy (wsV RX3 71 RX2 yX2_windowStart wsX2_windowStart) := goodIn_app (goodIn_of _ (by decide +kernel)) ggX3_placesToldBy_X2_windowStart
set_option maxRecDepth 20000 in
theorem ggX3_placesToldBy_X3_tellerAt : GoodIn wsX3_placesToldBy wsX3_tellerAt := goodIn_r _ [29, 30, 31, 32, 33, 42, 43, 44] (by decide +kernel) (by decide +kernel)
set_option maxRecDepth 20000 in
theorem gX3_placesToldBy_X3_tellerAt : GoodIn wsX3_placesToldBy (wsV RX3 82 RX3 yX3_tellerAt wsX3_tellerAt) := goodIn_app (goodIn_of _ (by decide +kernel)) ggX3_placesToldBy_X3_tellerAt
theorem dX3_placesToldBy_0 : decode cX3_placesToldBy 0 = .ok (.aload_n 1, 1) := by decide +kernel
theorem dX3_placesToldBy_1 : decode cX3_placesToldBy 1 = .ok (.invokevirtual 67, 3) := by decide +kernel
theorem dX3_placesToldBy_4 : decode cX3_placesToldBy 4 = .ok (.istore_n 3, 1) := by decide +kernel
theorem dX3_placesToldBy_5 : decode cX3_placesToldBy 5 = .ok (.iconst 0, 1) := by decide +kernel
theorem dX3_placesToldBy_6 : decode cX3_placesToldBy 6 = .ok (.istore 4, 2) := by decide +kernel
theorem dX3_placesToldBy_8 : decode cX3_placesToldBy 8 = .ok (.aload_n 1, 1) := by decide +kernel
theorem dX3_placesToldBy_9 : decode cX3_placesToldBy 9 = .ok (.invokevirtual 71, 3) := by decide +kernel
theorem dX3_placesToldBy_12 : decode cX3_placesToldBy 12 = .ok (.istore 5, 2) := by decide +kernel
theorem dX3_placesToldBy_14 : decode cX3_placesToldBy 14 = .ok (.iload 5, 2) := by decide +kernel
theorem dX3_placesToldBy_16 : decode cX3_placesToldBy 16 = .ok (.iload_n 3, 1) := by decide +kernel
theorem dX3_placesToldBy_17 : decode cX3_placesToldBy 17 = .ok (.if_icmp .ge 22, 3) := by decide +kernel
theorem dX3_placesToldBy_20 : decode cX3_placesToldBy 20 = .ok (.aload_n 0, 1) := by decide +kernel
theorem dX3_placesToldBy_21 : decode cX3_placesToldBy 21 = .ok (.iload 5, 2) := by decide +kernel
theorem dX3_placesToldBy_23 : decode cX3_placesToldBy 23 = .ok (.invokevirtual 82, 3) := by decide +kernel
theorem dX3_placesToldBy_26 : decode cX3_placesToldBy 26 = .ok (.iload_n 2, 1) := by decide +kernel
theorem dX3_placesToldBy_27 : decode cX3_placesToldBy 27 = .ok (.if_icmp .ne 6, 3) := by decide +kernel
theorem dX3_placesToldBy_30 : decode cX3_placesToldBy 30 = .ok (.iinc 4 1, 3) := by decide +kernel
theorem dX3_placesToldBy_33 : decode cX3_placesToldBy 33 = .ok (.iinc 5 1, 3) := by decide +kernel
theorem dX3_placesToldBy_36 : decode cX3_placesToldBy 36 = .ok (.goto (-22), 3) := by decide +kernel
theorem dX3_placesToldBy_39 : decode cX3_placesToldBy 39 = .ok (.iload 4, 2) := by decide +kernel
theorem dX3_placesToldBy_41 : decode cX3_placesToldBy 41 = .ok (.ireturn, 1) := by decide +kernel
set_option maxRecDepth 20000 in
theorem ggX3_longestStretch_X2_windowEnd : GoodIn wsX3_longestStretch wsX2_windowEnd := goodIn_r _ [9, 10, 11, 12, 8, 13, 14, 15, 16, 17, 18, 19, 20, 21, 22, 3, 23, 24, 2, 4, 44, 45, 46, 47, 48, 49, 50, 51] (by decide +kernel) (by decide +kernel)
set_option maxRecDepth 20000 in
theorem gX3_longestStretch_X2_windowEnd : GoodIn wsX3_longestStretch (wsV RX3 67 RX2 yX2_windowEnd wsX2_windowEnd) := goodIn_app (goodIn_of _ (by decide +kernel)) ggX3_longestStretch_X2_windowEnd
set_option maxRecDepth 20000 in
theorem ggX3_longestStretch_X2_windowStart : GoodIn wsX3_longestStretch wsX2_windowStart := goodIn_r _ [13, 14, 15, 44, 45, 46, 47, 48, 49, 50, 51] (by decide +kernel) (by decide +kernel)
set_option maxRecDepth 20000 in
theorem gX3_longestStretch_X2_windowStart : GoodIn wsX3_longestStretch (wsV RX3 71 RX2 yX2_windowStart wsX2_windowStart) := goodIn_app (goodIn_of _ (by decide +kernel)) ggX3_longestStretch_X2_windowStart
set_option maxRecDepth 20000 in
theorem ggX3_longestStretch_X3_isExplained : GoodIn wsX3_longestStretch wsX3_isExplained := goodIn_r _ [30, 31, 32, 33, 29, 34, 35, 36, 37, 38, 39, 40, 41, 8, 42, 20, 43, 52, 53, 54, 44, 45, 46, 47, 48, 49, 50, 51] (by decide +kernel) (by decide +kernel)
set_option maxRecDepth 20000 in
theorem gX3_longestStretch_X3_isExplained : GoodIn wsX3_longestStretch (wsV RX3 89 RX3 yX3_isExplained wsX3_isExplained) := goodIn_app (goodIn_of _ (by decide +kernel)) ggX3_longestStretch_X3_isExplained
theorem dX3_longestStretch_0 : decode cX3_longestStretch 0 = .ok (.aload_n 1, 1) := by decide +kernel
theorem dX3_longestStretch_1 : decode cX3_longestStretch 1 = .ok (.invokevirtual 67, 3) := by decide +kernel
theorem dX3_longestStretch_4 : decode cX3_longestStretch 4 = .ok (.istore_n 2, 1) := by decide +kernel
theorem dX3_longestStretch_5 : decode cX3_longestStretch 5 = .ok (.iconst 0, 1) := by decide +kernel
theorem dX3_longestStretch_6 : decode cX3_longestStretch 6 = .ok (.istore_n 3, 1) := by decide +kernel
theorem dX3_longestStretch_7 : decode cX3_longestStretch 7 = .ok (.iconst 0, 1) := by decide +kernel
theorem dX3_longestStretch_8 : decode cX3_longestStretch 8 = .ok (.istore 4, 2) := by decide +kernel
theorem dX3_longestStretch_10 : decode cX3_longestStretch 10 = .ok (.aload_n 1, 1) := by decide +kernel
theorem dX3_longestStretch_11 : decode cX3_longestStretch 11 = .ok (.invokevirtual 71, 3) := by decide +kernel
theorem dX3_longestStretch_14 : decode cX3_longestStretch 14 = .ok (.istore 5, 2) := by decide +kernel
theorem dX3_longestStretch_16 : decode cX3_longestStretch 16 = .ok (.iload 5, 2) := by decide +kernel
theorem dX3_longestStretch_18 : decode cX3_longestStretch 18 = .ok (.iload_n 2, 1) := by decide +kernel
theorem dX3_longestStretch_19 : decode cX3_longestStretch 19 = .ok (.if_icmp .ge 36, 3) := by decide +kernel
theorem dX3_longestStretch_22 : decode cX3_longestStretch 22 = .ok (.aload_n 0, 1) := by decide +kernel
theorem dX3_longestStretch_23 : decode cX3_longestStretch 23 = .ok (.aload_n 1, 1) := by decide +kernel
theorem dX3_longestStretch_24 : decode cX3_longestStretch 24 = .ok (.iload 5, 2) := by decide +kernel
theorem dX3_longestStretch_26 : decode cX3_longestStretch 26 = .ok (.invokevirtual 89, 3) := by decide +kernel
theorem dX3_longestStretch_29 : decode cX3_longestStretch 29 = .ok (.ifCond .eq 10, 3) := by decide +kernel
theorem dX3_longestStretch_32 : decode cX3_longestStretch 32 = .ok (.iload 4, 2) := by decide +kernel
theorem dX3_longestStretch_34 : decode cX3_longestStretch 34 = .ok (.iconst 1, 1) := by decide +kernel
theorem dX3_longestStretch_35 : decode cX3_longestStretch 35 = .ok (.iadd, 1) := by decide +kernel
theorem dX3_longestStretch_36 : decode cX3_longestStretch 36 = .ok (.goto 4, 3) := by decide +kernel
theorem dX3_longestStretch_39 : decode cX3_longestStretch 39 = .ok (.iconst 0, 1) := by decide +kernel
theorem dX3_longestStretch_40 : decode cX3_longestStretch 40 = .ok (.istore 4, 2) := by decide +kernel
theorem dX3_longestStretch_42 : decode cX3_longestStretch 42 = .ok (.iload_n 3, 1) := by decide +kernel
theorem dX3_longestStretch_43 : decode cX3_longestStretch 43 = .ok (.iload 4, 2) := by decide +kernel
theorem dX3_longestStretch_45 : decode cX3_longestStretch 45 = .ok (.invokestatic 93, 3) := by decide +kernel
theorem dX3_longestStretch_48 : decode cX3_longestStretch 48 = .ok (.istore_n 3, 1) := by decide +kernel
theorem dX3_longestStretch_49 : decode cX3_longestStretch 49 = .ok (.iinc 5 1, 3) := by decide +kernel
theorem dX3_longestStretch_52 : decode cX3_longestStretch 52 = .ok (.goto (-36), 3) := by decide +kernel
theorem dX3_longestStretch_55 : decode cX3_longestStretch 55 = .ok (.iload_n 3, 1) := by decide +kernel
theorem dX3_longestStretch_56 : decode cX3_longestStretch 56 = .ok (.ireturn, 1) := by decide +kernel
theorem dX4_init_0 : decode cX4_init 0 = .ok (.aload_n 0, 1) := by decide +kernel
theorem dX4_init_1 : decode cX4_init 1 = .ok (.invokespecial 3, 3) := by decide +kernel
theorem dX4_init_4 : decode cX4_init 4 = .ok (.aload_n 0, 1) := by decide +kernel
theorem dX4_init_5 : decode cX4_init 5 = .ok (.bipush 60, 2) := by decide +kernel
theorem dX4_init_7 : decode cX4_init 7 = .ok (.newarray .int, 2) := by decide +kernel
theorem dX4_init_9 : decode cX4_init 9 = .ok (.putfield 9, 3) := by decide +kernel
theorem dX4_init_12 : decode cX4_init 12 = .ok (.aload_n 0, 1) := by decide +kernel
theorem dX4_init_13 : decode cX4_init 13 = .ok (.sipush 540, 3) := by decide +kernel
theorem dX4_init_16 : decode cX4_init 16 = .ok (.newarray .int, 2) := by decide +kernel
theorem dX4_init_18 : decode cX4_init 18 = .ok (.putfield 15, 3) := by decide +kernel
theorem dX4_init_21 : decode cX4_init 21 = .ok (.return_, 1) := by decide +kernel
set_option maxRecDepth 20000 in
theorem ggX4_add_X5_lay : GoodIn wsX4_add wsX5_lay := goodIn_r _ [5] (by decide +kernel) (by decide +kernel)
set_option maxRecDepth 20000 in
theorem gX4_add_X5_lay_n22 : GoodIn wsX4_add (wsX5_lay) := ggX4_add_X5_lay
theorem dX4_add_0 : decode cX4_add 0 = .ok (.aload_n 0, 1) := by decide +kernel
theorem dX4_add_1 : decode cX4_add 1 = .ok (.getfield 9, 3) := by decide +kernel
theorem dX4_add_4 : decode cX4_add 4 = .ok (.aload_n 0, 1) := by decide +kernel
theorem dX4_add_5 : decode cX4_add 5 = .ok (.getfield 18, 3) := by decide +kernel
theorem dX4_add_8 : decode cX4_add 8 = .ok (.iload_n 1, 1) := by decide +kernel
theorem dX4_add_9 : decode cX4_add 9 = .ok (.invokestatic 22, 3) := by decide +kernel
theorem dX4_add_12 : decode cX4_add 12 = .ok (.aload_n 0, 1) := by decide +kernel
theorem dX4_add_13 : decode cX4_add 13 = .ok (.dup, 1) := by decide +kernel
theorem dX4_add_14 : decode cX4_add 14 = .ok (.getfield 18, 3) := by decide +kernel
theorem dX4_add_17 : decode cX4_add 17 = .ok (.iconst 1, 1) := by decide +kernel
theorem dX4_add_18 : decode cX4_add 18 = .ok (.iadd, 1) := by decide +kernel
theorem dX4_add_19 : decode cX4_add 19 = .ok (.putfield 18, 3) := by decide +kernel
theorem dX4_add_22 : decode cX4_add 22 = .ok (.return_, 1) := by decide +kernel
set_option maxRecDepth 20000 in
theorem ggX4_codeAt_X5_cellAt : GoodIn wsX4_codeAt wsX5_cellAt := goodIn_r _ [4] (by decide +kernel) (by decide +kernel)
set_option maxRecDepth 20000 in
theorem gX4_codeAt_X5_cellAt_n26 : GoodIn wsX4_codeAt (wsX5_cellAt) := ggX4_codeAt_X5_cellAt
theorem dX4_codeAt_0 : decode cX4_codeAt 0 = .ok (.aload_n 0, 1) := by decide +kernel
theorem dX4_codeAt_1 : decode cX4_codeAt 1 = .ok (.getfield 9, 3) := by decide +kernel
theorem dX4_codeAt_4 : decode cX4_codeAt 4 = .ok (.iload_n 1, 1) := by decide +kernel
theorem dX4_codeAt_5 : decode cX4_codeAt 5 = .ok (.invokestatic 26, 3) := by decide +kernel
theorem dX4_codeAt_8 : decode cX4_codeAt 8 = .ok (.ireturn, 1) := by decide +kernel
set_option maxRecDepth 20000 in
theorem ggX4_unfoldedAt_X5_cellAt : GoodIn wsX4_unfoldedAt wsX5_cellAt := goodIn_r _ [4] (by decide +kernel) (by decide +kernel)
set_option maxRecDepth 20000 in
theorem gX4_unfoldedAt_X5_cellAt_n26 : GoodIn wsX4_unfoldedAt (wsX5_cellAt) := ggX4_unfoldedAt_X5_cellAt
theorem dX4_unfoldedAt_0 : decode cX4_unfoldedAt 0 = .ok (.aload_n 0, 1) := by decide +kernel
theorem dX4_unfoldedAt_1 : decode cX4_unfoldedAt 1 = .ok (.getfield 15, 3) := by decide +kernel
theorem dX4_unfoldedAt_4 : decode cX4_unfoldedAt 4 = .ok (.iload_n 1, 1) := by decide +kernel
theorem dX4_unfoldedAt_5 : decode cX4_unfoldedAt 5 = .ok (.invokestatic 26, 3) := by decide +kernel
theorem dX4_unfoldedAt_8 : decode cX4_unfoldedAt 8 = .ok (.ireturn, 1) := by decide +kernel
set_option maxRecDepth 20000 in
theorem ggX4_errorIndex_X4_codeAt : GoodIn wsX4_errorIndex wsX4_codeAt := goodIn_r _ [6, 7, 8, 9, 10, 20, 21, 22] (by decide +kernel) (by decide +kernel)
set_option maxRecDepth 20000 in
theorem gX4_errorIndex_X4_codeAt : GoodIn wsX4_errorIndex (wsV RX4 30 RX4 yX4_codeAt wsX4_codeAt) := goodIn_app (goodIn_of _ (by decide +kernel)) ggX4_errorIndex_X4_codeAt
set_option maxRecDepth 20000 in
theorem ggX4_errorIndex_X4_stageAfter : GoodIn wsX4_errorIndex wsX4_stageAfter := goodIn_r _ [13, 14, 15, 5, 16, 17, 18, 19] (by decide +kernel) (by decide +kernel)
set_option maxRecDepth 20000 in
theorem gX4_errorIndex_X4_stageAfter : GoodIn wsX4_errorIndex (va_wsS RX4 34 yX4_stageAfter wsX4_stageAfter) := goodIn_app (goodIn_of _ (by decide +kernel)) ggX4_errorIndex_X4_stageAfter
theorem dX4_errorIndex_0 : decode cX4_errorIndex 0 = .ok (.iconst 0, 1) := by decide +kernel
theorem dX4_errorIndex_1 : decode cX4_errorIndex 1 = .ok (.istore_n 1, 1) := by decide +kernel
theorem dX4_errorIndex_2 : decode cX4_errorIndex 2 = .ok (.iconst 0, 1) := by decide +kernel
theorem dX4_errorIndex_3 : decode cX4_errorIndex 3 = .ok (.istore_n 2, 1) := by decide +kernel
theorem dX4_errorIndex_4 : decode cX4_errorIndex 4 = .ok (.iload_n 2, 1) := by decide +kernel
theorem dX4_errorIndex_5 : decode cX4_errorIndex 5 = .ok (.aload_n 0, 1) := by decide +kernel
theorem dX4_errorIndex_6 : decode cX4_errorIndex 6 = .ok (.getfield 18, 3) := by decide +kernel
theorem dX4_errorIndex_9 : decode cX4_errorIndex 9 = .ok (.if_icmp .ge 26, 3) := by decide +kernel
theorem dX4_errorIndex_12 : decode cX4_errorIndex 12 = .ok (.iload_n 1, 1) := by decide +kernel
theorem dX4_errorIndex_13 : decode cX4_errorIndex 13 = .ok (.aload_n 0, 1) := by decide +kernel
theorem dX4_errorIndex_14 : decode cX4_errorIndex 14 = .ok (.iload_n 2, 1) := by decide +kernel
theorem dX4_errorIndex_15 : decode cX4_errorIndex 15 = .ok (.invokevirtual 30, 3) := by decide +kernel
theorem dX4_errorIndex_18 : decode cX4_errorIndex 18 = .ok (.invokestatic 34, 3) := by decide +kernel
theorem dX4_errorIndex_21 : decode cX4_errorIndex 21 = .ok (.istore_n 1, 1) := by decide +kernel
theorem dX4_errorIndex_22 : decode cX4_errorIndex 22 = .ok (.iload_n 1, 1) := by decide +kernel
theorem dX4_errorIndex_23 : decode cX4_errorIndex 23 = .ok (.iconst 4, 1) := by decide +kernel
theorem dX4_errorIndex_24 : decode cX4_errorIndex 24 = .ok (.if_icmp .ne 5, 3) := by decide +kernel
theorem dX4_errorIndex_27 : decode cX4_errorIndex 27 = .ok (.iload_n 2, 1) := by decide +kernel
theorem dX4_errorIndex_28 : decode cX4_errorIndex 28 = .ok (.ireturn, 1) := by decide +kernel
theorem dX4_errorIndex_29 : decode cX4_errorIndex 29 = .ok (.iinc 2 1, 3) := by decide +kernel
theorem dX4_errorIndex_32 : decode cX4_errorIndex 32 = .ok (.goto (-28), 3) := by decide +kernel
theorem dX4_errorIndex_35 : decode cX4_errorIndex 35 = .ok (.aload_n 0, 1) := by decide +kernel
theorem dX4_errorIndex_36 : decode cX4_errorIndex 36 = .ok (.getfield 18, 3) := by decide +kernel
theorem dX4_errorIndex_39 : decode cX4_errorIndex 39 = .ok (.ireturn, 1) := by decide +kernel
set_option maxRecDepth 20000 in
theorem ggX4_isComplete_X4_codeAt : GoodIn wsX4_isComplete wsX4_codeAt := goodIn_r _ [6, 7, 8, 9, 10, 20, 21, 22] (by decide +kernel) (by decide +kernel)
set_option maxRecDepth 20000 in
theorem gX4_isComplete_X4_codeAt : GoodIn wsX4_isComplete (wsV RX4 30 RX4 yX4_codeAt wsX4_codeAt) := goodIn_app (goodIn_of _ (by decide +kernel)) ggX4_isComplete_X4_codeAt
set_option maxRecDepth 20000 in
theorem ggX4_isComplete_X4_stageAfter : GoodIn wsX4_isComplete wsX4_stageAfter := goodIn_r _ [13, 14, 15, 5, 16, 17, 18, 19] (by decide +kernel) (by decide +kernel)
set_option maxRecDepth 20000 in
theorem gX4_isComplete_X4_stageAfter : GoodIn wsX4_isComplete (va_wsS RX4 34 yX4_stageAfter wsX4_stageAfter) := goodIn_app (goodIn_of _ (by decide +kernel)) ggX4_isComplete_X4_stageAfter
theorem dX4_isComplete_0 : decode cX4_isComplete 0 = .ok (.iconst 0, 1) := by decide +kernel
theorem dX4_isComplete_1 : decode cX4_isComplete 1 = .ok (.istore_n 1, 1) := by decide +kernel
theorem dX4_isComplete_2 : decode cX4_isComplete 2 = .ok (.iconst 0, 1) := by decide +kernel
theorem dX4_isComplete_3 : decode cX4_isComplete 3 = .ok (.istore_n 2, 1) := by decide +kernel
theorem dX4_isComplete_4 : decode cX4_isComplete 4 = .ok (.iload_n 2, 1) := by decide +kernel
theorem dX4_isComplete_5 : decode cX4_isComplete 5 = .ok (.aload_n 0, 1) := by decide +kernel
theorem dX4_isComplete_6 : decode cX4_isComplete 6 = .ok (.getfield 18, 3) := by decide +kernel
theorem dX4_isComplete_9 : decode cX4_isComplete 9 = .ok (.if_icmp .ge 19, 3) := by decide +kernel
theorem dX4_isComplete_12 : decode cX4_isComplete 12 = .ok (.iload_n 1, 1) := by decide +kernel
theorem dX4_isComplete_13 : decode cX4_isComplete 13 = .ok (.aload_n 0, 1) := by decide +kernel
theorem dX4_isComplete_14 : decode cX4_isComplete 14 = .ok (.iload_n 2, 1) := by decide +kernel
theorem dX4_isComplete_15 : decode cX4_isComplete 15 = .ok (.invokevirtual 30, 3) := by decide +kernel
theorem dX4_isComplete_18 : decode cX4_isComplete 18 = .ok (.invokestatic 34, 3) := by decide +kernel
theorem dX4_isComplete_21 : decode cX4_isComplete 21 = .ok (.istore_n 1, 1) := by decide +kernel
theorem dX4_isComplete_22 : decode cX4_isComplete 22 = .ok (.iinc 2 1, 3) := by decide +kernel
theorem dX4_isComplete_25 : decode cX4_isComplete 25 = .ok (.goto (-21), 3) := by decide +kernel
theorem dX4_isComplete_28 : decode cX4_isComplete 28 = .ok (.aload_n 0, 1) := by decide +kernel
theorem dX4_isComplete_29 : decode cX4_isComplete 29 = .ok (.getfield 18, 3) := by decide +kernel
theorem dX4_isComplete_32 : decode cX4_isComplete 32 = .ok (.ifCond .le 11, 3) := by decide +kernel
theorem dX4_isComplete_35 : decode cX4_isComplete 35 = .ok (.iload_n 1, 1) := by decide +kernel
theorem dX4_isComplete_36 : decode cX4_isComplete 36 = .ok (.ifCond .ne 7, 3) := by decide +kernel
theorem dX4_isComplete_39 : decode cX4_isComplete 39 = .ok (.iconst 1, 1) := by decide +kernel
theorem dX4_isComplete_40 : decode cX4_isComplete 40 = .ok (.goto 4, 3) := by decide +kernel
theorem dX4_isComplete_43 : decode cX4_isComplete 43 = .ok (.iconst 0, 1) := by decide +kernel
theorem dX4_isComplete_44 : decode cX4_isComplete 44 = .ok (.ireturn, 1) := by decide +kernel
set_option maxRecDepth 20000 in
theorem ggX4_unfold_X4_codeAt : GoodIn wsX4_unfold wsX4_codeAt := goodIn_r _ [7, 8, 9, 10, 11, 28, 29, 30] (by decide +kernel) (by decide +kernel)
set_option maxRecDepth 20000 in
theorem gX4_unfold_X4_codeAt : GoodIn wsX4_unfold (wsV RX4 30 RX4 yX4_codeAt wsX4_codeAt) := goodIn_app (goodIn_of _ (by decide +kernel)) ggX4_unfold_X4_codeAt
set_option maxRecDepth 20000 in
theorem ggX4_unfold_X4_isLetter : GoodIn wsX4_unfold wsX4_isLetter := goodIn_r _ [14] (by decide +kernel) (by decide +kernel)
set_option maxRecDepth 20000 in
theorem gX4_unfold_X4_isLetter : GoodIn wsX4_unfold (va_wsS RX4 38 yX4_isLetter wsX4_isLetter) := goodIn_app (goodIn_of _ (by decide +kernel)) ggX4_unfold_X4_isLetter
set_option maxRecDepth 20000 in
theorem ggX4_unfold_X5_lay : GoodIn wsX4_unfold wsX5_lay := goodIn_r _ [16] (by decide +kernel) (by decide +kernel)
set_option maxRecDepth 20000 in
theorem gX4_unfold_X5_lay_n22 : GoodIn wsX4_unfold (wsX5_lay) := ggX4_unfold_X5_lay
set_option maxRecDepth 20000 in
theorem ggX4_unfold_X4_isTimes : GoodIn wsX4_unfold wsX4_isTimes := goodIn_r _ [19] (by decide +kernel) (by decide +kernel)
set_option maxRecDepth 20000 in
theorem gX4_unfold_X4_isTimes : GoodIn wsX4_unfold (va_wsS RX4 42 yX4_isTimes wsX4_isTimes) := goodIn_app (goodIn_of _ (by decide +kernel)) ggX4_unfold_X4_isTimes
set_option maxRecDepth 20000 in
theorem ggX4_unfold_X4_repeat : GoodIn wsX4_unfold wsX4_repeat := goodIn_r _ [23, 2, 24, 25, 26, 6, 27, 9, 10, 11, 15, 16, 28, 29, 30] (by decide +kernel) (by decide +kernel)
set_option maxRecDepth 20000 in
theorem gX4_unfold_X4_repeat : GoodIn wsX4_unfold (wsV RX4 45 RX4 yX4_repeat wsX4_repeat) := goodIn_app (goodIn_of _ (by decide +kernel)) ggX4_unfold_X4_repeat
theorem dX4_unfold_0 : decode cX4_unfold 0 = .ok (.iconst 0, 1) := by decide +kernel
theorem dX4_unfold_1 : decode cX4_unfold 1 = .ok (.istore_n 1, 1) := by decide +kernel
theorem dX4_unfold_2 : decode cX4_unfold 2 = .ok (.iconst 0, 1) := by decide +kernel
theorem dX4_unfold_3 : decode cX4_unfold 3 = .ok (.istore_n 2, 1) := by decide +kernel
theorem dX4_unfold_4 : decode cX4_unfold 4 = .ok (.iconst 0, 1) := by decide +kernel
theorem dX4_unfold_5 : decode cX4_unfold 5 = .ok (.istore_n 3, 1) := by decide +kernel
theorem dX4_unfold_6 : decode cX4_unfold 6 = .ok (.iload_n 3, 1) := by decide +kernel
theorem dX4_unfold_7 : decode cX4_unfold 7 = .ok (.aload_n 0, 1) := by decide +kernel
theorem dX4_unfold_8 : decode cX4_unfold 8 = .ok (.getfield 18, 3) := by decide +kernel
theorem dX4_unfold_11 : decode cX4_unfold 11 = .ok (.if_icmp .ge 75, 3) := by decide +kernel
theorem dX4_unfold_14 : decode cX4_unfold 14 = .ok (.aload_n 0, 1) := by decide +kernel
theorem dX4_unfold_15 : decode cX4_unfold 15 = .ok (.iload_n 3, 1) := by decide +kernel
theorem dX4_unfold_16 : decode cX4_unfold 16 = .ok (.invokevirtual 30, 3) := by decide +kernel
theorem dX4_unfold_19 : decode cX4_unfold 19 = .ok (.istore 4, 2) := by decide +kernel
theorem dX4_unfold_21 : decode cX4_unfold 21 = .ok (.iload 4, 2) := by decide +kernel
theorem dX4_unfold_23 : decode cX4_unfold 23 = .ok (.invokestatic 38, 3) := by decide +kernel
theorem dX4_unfold_26 : decode cX4_unfold 26 = .ok (.ifCond .eq 22, 3) := by decide +kernel
theorem dX4_unfold_29 : decode cX4_unfold 29 = .ok (.aload_n 0, 1) := by decide +kernel
theorem dX4_unfold_30 : decode cX4_unfold 30 = .ok (.getfield 15, 3) := by decide +kernel
theorem dX4_unfold_33 : decode cX4_unfold 33 = .ok (.iload_n 1, 1) := by decide +kernel
theorem dX4_unfold_34 : decode cX4_unfold 34 = .ok (.iload 4, 2) := by decide +kernel
theorem dX4_unfold_36 : decode cX4_unfold 36 = .ok (.bipush 97, 2) := by decide +kernel
theorem dX4_unfold_38 : decode cX4_unfold 38 = .ok (.isub, 1) := by decide +kernel
theorem dX4_unfold_39 : decode cX4_unfold 39 = .ok (.invokestatic 22, 3) := by decide +kernel
theorem dX4_unfold_42 : decode cX4_unfold 42 = .ok (.iinc 1 1, 3) := by decide +kernel
theorem dX4_unfold_45 : decode cX4_unfold 45 = .ok (.goto 35, 3) := by decide +kernel
theorem dX4_unfold_48 : decode cX4_unfold 48 = .ok (.iload 4, 2) := by decide +kernel
theorem dX4_unfold_50 : decode cX4_unfold 50 = .ok (.bipush 40, 2) := by decide +kernel
theorem dX4_unfold_52 : decode cX4_unfold 52 = .ok (.if_icmp .ne 8, 3) := by decide +kernel
theorem dX4_unfold_55 : decode cX4_unfold 55 = .ok (.iload_n 1, 1) := by decide +kernel
theorem dX4_unfold_56 : decode cX4_unfold 56 = .ok (.istore_n 2, 1) := by decide +kernel
theorem dX4_unfold_57 : decode cX4_unfold 57 = .ok (.goto 23, 3) := by decide +kernel
theorem dX4_unfold_60 : decode cX4_unfold 60 = .ok (.iload 4, 2) := by decide +kernel
theorem dX4_unfold_62 : decode cX4_unfold 62 = .ok (.invokestatic 42, 3) := by decide +kernel
theorem dX4_unfold_65 : decode cX4_unfold 65 = .ok (.ifCond .eq 15, 3) := by decide +kernel
theorem dX4_unfold_68 : decode cX4_unfold 68 = .ok (.aload_n 0, 1) := by decide +kernel
theorem dX4_unfold_69 : decode cX4_unfold 69 = .ok (.iload_n 2, 1) := by decide +kernel
theorem dX4_unfold_70 : decode cX4_unfold 70 = .ok (.iload_n 1, 1) := by decide +kernel
theorem dX4_unfold_71 : decode cX4_unfold 71 = .ok (.iload 4, 2) := by decide +kernel
theorem dX4_unfold_73 : decode cX4_unfold 73 = .ok (.bipush 48, 2) := by decide +kernel
theorem dX4_unfold_75 : decode cX4_unfold 75 = .ok (.isub, 1) := by decide +kernel
theorem dX4_unfold_76 : decode cX4_unfold 76 = .ok (.invokevirtual 45, 3) := by decide +kernel
theorem dX4_unfold_79 : decode cX4_unfold 79 = .ok (.istore_n 1, 1) := by decide +kernel
theorem dX4_unfold_80 : decode cX4_unfold 80 = .ok (.iinc 3 1, 3) := by decide +kernel
theorem dX4_unfold_83 : decode cX4_unfold 83 = .ok (.goto (-77), 3) := by decide +kernel
theorem dX4_unfold_86 : decode cX4_unfold 86 = .ok (.iload_n 1, 1) := by decide +kernel
theorem dX4_unfold_87 : decode cX4_unfold 87 = .ok (.ireturn, 1) := by decide +kernel
set_option maxRecDepth 20000 in
theorem ggX4_repeat_X4_unfoldedAt : GoodIn wsX4_repeat wsX4_unfoldedAt := goodIn_r _ [6, 1, 7, 8, 9, 12, 13, 14] (by decide +kernel) (by decide +kernel)
set_option maxRecDepth 20000 in
theorem gX4_repeat_X4_unfoldedAt : GoodIn wsX4_repeat (wsV RX4 49 RX4 yX4_unfoldedAt wsX4_unfoldedAt) := goodIn_app (goodIn_of _ (by decide +kernel)) ggX4_repeat_X4_unfoldedAt
set_option maxRecDepth 20000 in
theorem ggX4_repeat_X5_lay : GoodIn wsX4_repeat wsX5_lay := goodIn_r _ [11] (by decide +kernel) (by decide +kernel)
set_option maxRecDepth 20000 in
theorem gX4_repeat_X5_lay_n22 : GoodIn wsX4_repeat (wsX5_lay) := ggX4_repeat_X5_lay
theorem dX4_repeat_0 : decode cX4_repeat 0 = .ok (.iload_n 2, 1) := by decide +kernel
theorem dX4_repeat_1 : decode cX4_repeat 1 = .ok (.iload_n 1, 1) := by decide +kernel
theorem dX4_repeat_2 : decode cX4_repeat 2 = .ok (.isub, 1) := by decide +kernel
theorem dX4_repeat_3 : decode cX4_repeat 3 = .ok (.istore 4, 2) := by decide +kernel
theorem dX4_repeat_5 : decode cX4_repeat 5 = .ok (.iload_n 1, 1) := by decide +kernel
theorem dX4_repeat_6 : decode cX4_repeat 6 = .ok (.iload 4, 2) := by decide +kernel
theorem dX4_repeat_8 : decode cX4_repeat 8 = .ok (.iload_n 3, 1) := by decide +kernel
theorem dX4_repeat_9 : decode cX4_repeat 9 = .ok (.imul, 1) := by decide +kernel
theorem dX4_repeat_10 : decode cX4_repeat 10 = .ok (.iadd, 1) := by decide +kernel
theorem dX4_repeat_11 : decode cX4_repeat 11 = .ok (.istore 5, 2) := by decide +kernel
theorem dX4_repeat_13 : decode cX4_repeat 13 = .ok (.iload_n 2, 1) := by decide +kernel
theorem dX4_repeat_14 : decode cX4_repeat 14 = .ok (.istore 6, 2) := by decide +kernel
theorem dX4_repeat_16 : decode cX4_repeat 16 = .ok (.iload 6, 2) := by decide +kernel
theorem dX4_repeat_18 : decode cX4_repeat 18 = .ok (.iload 5, 2) := by decide +kernel
theorem dX4_repeat_20 : decode cX4_repeat 20 = .ok (.if_icmp .ge 27, 3) := by decide +kernel
theorem dX4_repeat_23 : decode cX4_repeat 23 = .ok (.aload_n 0, 1) := by decide +kernel
theorem dX4_repeat_24 : decode cX4_repeat 24 = .ok (.getfield 15, 3) := by decide +kernel
theorem dX4_repeat_27 : decode cX4_repeat 27 = .ok (.iload 6, 2) := by decide +kernel
theorem dX4_repeat_29 : decode cX4_repeat 29 = .ok (.aload_n 0, 1) := by decide +kernel
theorem dX4_repeat_30 : decode cX4_repeat 30 = .ok (.iload 6, 2) := by decide +kernel
theorem dX4_repeat_32 : decode cX4_repeat 32 = .ok (.iload 4, 2) := by decide +kernel
theorem dX4_repeat_34 : decode cX4_repeat 34 = .ok (.isub, 1) := by decide +kernel
theorem dX4_repeat_35 : decode cX4_repeat 35 = .ok (.invokevirtual 49, 3) := by decide +kernel
theorem dX4_repeat_38 : decode cX4_repeat 38 = .ok (.invokestatic 22, 3) := by decide +kernel
theorem dX4_repeat_41 : decode cX4_repeat 41 = .ok (.iinc 6 1, 3) := by decide +kernel
theorem dX4_repeat_44 : decode cX4_repeat 44 = .ok (.goto (-28), 3) := by decide +kernel
theorem dX4_repeat_47 : decode cX4_repeat 47 = .ok (.iload 5, 2) := by decide +kernel
theorem dX4_repeat_49 : decode cX4_repeat 49 = .ok (.ireturn, 1) := by decide +kernel
set_option maxRecDepth 20000 in
theorem ggX4_stageAfter_X4_isLetter : GoodIn wsX4_stageAfter wsX4_isLetter := goodIn_r _ [4] (by decide +kernel) (by decide +kernel)
set_option maxRecDepth 20000 in
theorem gX4_stageAfter_X4_isLetter : GoodIn wsX4_stageAfter (va_wsS RX4 38 yX4_isLetter wsX4_isLetter) := goodIn_app (goodIn_of _ (by decide +kernel)) ggX4_stageAfter_X4_isLetter
set_option maxRecDepth 20000 in
theorem ggX4_stageAfter_X4_isTimes : GoodIn wsX4_stageAfter wsX4_isTimes := goodIn_r _ [7] (by decide +kernel) (by decide +kernel)
set_option maxRecDepth 20000 in
theorem gX4_stageAfter_X4_isTimes : GoodIn wsX4_stageAfter (va_wsS RX4 42 yX4_isTimes wsX4_isTimes) := goodIn_app (goodIn_of _ (by decide +kernel)) ggX4_stageAfter_X4_isTimes
theorem dX4_stageAfter_0 : decode cX4_stageAfter 0 = .ok (.iload_n 0, 1) := by decide +kernel
theorem dX4_stageAfter_1 : decode cX4_stageAfter 1 = .ok (.ifCond .ne 26, 3) := by decide +kernel
theorem dX4_stageAfter_4 : decode cX4_stageAfter 4 = .ok (.iload_n 1, 1) := by decide +kernel
theorem dX4_stageAfter_5 : decode cX4_stageAfter 5 = .ok (.invokestatic 38, 3) := by decide +kernel
theorem dX4_stageAfter_8 : decode cX4_stageAfter 8 = .ok (.ifCond .eq 7, 3) := by decide +kernel
theorem dX4_stageAfter_11 : decode cX4_stageAfter 11 = .ok (.iconst 0, 1) := by decide +kernel
theorem dX4_stageAfter_12 : decode cX4_stageAfter 12 = .ok (.goto 14, 3) := by decide +kernel
theorem dX4_stageAfter_15 : decode cX4_stageAfter 15 = .ok (.iload_n 1, 1) := by decide +kernel
theorem dX4_stageAfter_16 : decode cX4_stageAfter 16 = .ok (.bipush 40, 2) := by decide +kernel
theorem dX4_stageAfter_18 : decode cX4_stageAfter 18 = .ok (.if_icmp .ne 7, 3) := by decide +kernel
theorem dX4_stageAfter_21 : decode cX4_stageAfter 21 = .ok (.iconst 1, 1) := by decide +kernel
theorem dX4_stageAfter_22 : decode cX4_stageAfter 22 = .ok (.goto 4, 3) := by decide +kernel
theorem dX4_stageAfter_25 : decode cX4_stageAfter 25 = .ok (.iconst 4, 1) := by decide +kernel
theorem dX4_stageAfter_26 : decode cX4_stageAfter 26 = .ok (.ireturn, 1) := by decide +kernel
theorem dX4_stageAfter_27 : decode cX4_stageAfter 27 = .ok (.iload_n 0, 1) := by decide +kernel
theorem dX4_stageAfter_28 : decode cX4_stageAfter 28 = .ok (.iconst 1, 1) := by decide +kernel
theorem dX4_stageAfter_29 : decode cX4_stageAfter 29 = .ok (.if_icmp .ne 16, 3) := by decide +kernel
theorem dX4_stageAfter_32 : decode cX4_stageAfter 32 = .ok (.iload_n 1, 1) := by decide +kernel
theorem dX4_stageAfter_33 : decode cX4_stageAfter 33 = .ok (.invokestatic 38, 3) := by decide +kernel
theorem dX4_stageAfter_36 : decode cX4_stageAfter 36 = .ok (.ifCond .eq 7, 3) := by decide +kernel
theorem dX4_stageAfter_39 : decode cX4_stageAfter 39 = .ok (.iconst 2, 1) := by decide +kernel
theorem dX4_stageAfter_40 : decode cX4_stageAfter 40 = .ok (.goto 4, 3) := by decide +kernel
theorem dX4_stageAfter_43 : decode cX4_stageAfter 43 = .ok (.iconst 4, 1) := by decide +kernel
theorem dX4_stageAfter_44 : decode cX4_stageAfter 44 = .ok (.ireturn, 1) := by decide +kernel
theorem dX4_stageAfter_45 : decode cX4_stageAfter 45 = .ok (.iload_n 0, 1) := by decide +kernel
theorem dX4_stageAfter_46 : decode cX4_stageAfter 46 = .ok (.iconst 2, 1) := by decide +kernel
theorem dX4_stageAfter_47 : decode cX4_stageAfter 47 = .ok (.if_icmp .ne 26, 3) := by decide +kernel
theorem dX4_stageAfter_50 : decode cX4_stageAfter 50 = .ok (.iload_n 1, 1) := by decide +kernel
theorem dX4_stageAfter_51 : decode cX4_stageAfter 51 = .ok (.invokestatic 38, 3) := by decide +kernel
theorem dX4_stageAfter_54 : decode cX4_stageAfter 54 = .ok (.ifCond .eq 7, 3) := by decide +kernel
