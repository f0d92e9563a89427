/-! the words of the tables, each by its place -/
noncomputable def wB : List Cond := lw_tbl.filter goodWord
theorem wB_good : GoodIn wB wB := fun w h => ⟨h, good_of_word (List.mem_filter.mp h).2⟩
theorem wIn {w : Cond} (i : Nat) (h : lw_tbl[i]? = some w) (hg : goodWord w = true) : w ∈ wB := List.mem_filter.mpr ⟨List.mem_of_getElem? h, hg⟩
theorem wB_tbl : ∀ w ∈ wB, w ∈ lw_tbl := fun _ h => (List.mem_filter.mp h).1
theorem wSE_X4_X4_heldByAll : Cond.selects RX4 yX4_heldByAll yX4_heldByAll ∈ wB := wIn 0 (by decide +kernel) rfl
theorem wSE_X4_X4_springAt : Cond.selects RX4 yX4_springAt yX4_springAt ∈ wB := wIn 2 (by decide +kernel) rfl
theorem wSE_X4_X4_birdsDrivenBy : Cond.selects RX4 yX4_birdsDrivenBy yX4_birdsDrivenBy ∈ wB := wIn 3 (by decide +kernel) rfl
theorem wSE_X4_X4_loadOn : Cond.selects RX4 yX4_loadOn yX4_loadOn ∈ wB := wIn 4 (by decide +kernel) rfl
theorem wSE_X4_X4_mixBird : Cond.selects RX4 yX4_mixBird yX4_mixBird ∈ wB := wIn 5 (by decide +kernel) rfl
theorem wSE_X4_X4_birdAt : Cond.selects RX4 yX4_birdAt yX4_birdAt ∈ wB := wIn 6 (by decide +kernel) rfl
theorem wSE_X4_X4_goOneTick : Cond.selects RX4 yX4_goOneTick yX4_goOneTick ∈ wB := wIn 7 (by decide +kernel) rfl
theorem wSE_X4_X4_shareBetweenCoupled : Cond.selects RX4 yX4_shareBetweenCoupled yX4_shareBetweenCoupled ∈ wB := wIn 8 (by decide +kernel) rfl
theorem wSE_X4_X4_goShaft : Cond.selects RX4 yX4_goShaft yX4_goShaft ∈ wB := wIn 9 (by decide +kernel) rfl
theorem wSE_X4_X4_goBarrel : Cond.selects RX4 yX4_goBarrel yX4_goBarrel ∈ wB := wIn 10 (by decide +kernel) rfl
theorem wSE_X4_X4_soundPlace : Cond.selects RX4 yX4_soundPlace yX4_soundPlace ∈ wB := wIn 11 (by decide +kernel) rfl
theorem wSE_X4_X4_rememberAll : Cond.selects RX4 yX4_rememberAll yX4_rememberAll ∈ wB := wIn 12 (by decide +kernel) rfl
theorem wSE_X4_X4_areAllDown : Cond.selects RX4 yX4_areAllDown yX4_areAllDown ∈ wB := wIn 13 (by decide +kernel) rfl
theorem wSE_X4_X4_recallAll : Cond.selects RX4 yX4_recallAll yX4_recallAll ∈ wB := wIn 14 (by decide +kernel) rfl
theorem wSE_X5_X5_fail : Cond.selects RX5 yX5_fail yX5_fail ∈ wB := wIn 15 (by decide +kernel) rfl
theorem wSE_X5_X5_isSpring : Cond.selects RX5 yX5_isSpring yX5_isSpring ∈ wB := wIn 16 (by decide +kernel) rfl
theorem wSE_X5_X5_sp : Cond.selects RX5 yX5_sp yX5_sp ∈ wB := wIn 17 (by decide +kernel) rfl
theorem wSE_X5_X5_pairs : Cond.selects RX5 yX5_pairs yX5_pairs ∈ wB := wIn 18 (by decide +kernel) rfl
theorem wSE_X5_X5_springTold : Cond.selects RX5 yX5_springTold yX5_springTold ∈ wB := wIn 19 (by decide +kernel) rfl
theorem wSE_X5_X5_load : Cond.selects RX5 yX5_load yX5_load ∈ wB := wIn 20 (by decide +kernel) rfl
theorem wSE_X5_X5_get : Cond.selects RX5 yX5_get yX5_get ∈ wB := wIn 21 (by decide +kernel) rfl
theorem wSE_X5_X5_liftAt : Cond.selects RX5 yX5_liftAt yX5_liftAt ∈ wB := wIn 22 (by decide +kernel) rfl
theorem wSE_X5_X5_isBird : Cond.selects RX5 yX5_isBird yX5_isBird ∈ wB := wIn 23 (by decide +kernel) rfl
theorem wSE_X5_X5_set : Cond.selects RX5 yX5_set yX5_set ∈ wB := wIn 24 (by decide +kernel) rfl
theorem wSE_X5_X5_pointsOf : Cond.selects RX5 yX5_pointsOf yX5_pointsOf ∈ wB := wIn 25 (by decide +kernel) rfl
theorem wSE_X5_X5_oneTick : Cond.selects RX5 yX5_oneTick yX5_oneTick ∈ wB := wIn 26 (by decide +kernel) rfl
theorem wSE_X5_X5_turn : Cond.selects RX5 yX5_turn yX5_turn ∈ wB := wIn 27 (by decide +kernel) rfl
theorem wSE_X5_X5_note : Cond.selects RX5 yX5_note yX5_note ∈ wB := wIn 28 (by decide +kernel) rfl
theorem wSE_X5_X5_counted : Cond.selects RX5 yX5_counted yX5_counted ∈ wB := wIn 29 (by decide +kernel) rfl
theorem wSE_X5_X5_heldByAll : Cond.selects RX5 yX5_heldByAll yX5_heldByAll ∈ wB := wIn 30 (by decide +kernel) rfl
theorem wSE_X5_X5_isDown : Cond.selects RX5 yX5_isDown yX5_isDown ∈ wB := wIn 31 (by decide +kernel) rfl
theorem wIN_L : Cond.initialized RL ∈ wB := wIn 32 (by decide +kernel) rfl
theorem wIN_X4 : Cond.initialized RX4 ∈ wB := wIn 33 (by decide +kernel) rfl
theorem wIN_X2 : Cond.initialized RX2 ∈ wB := wIn 34 (by decide +kernel) rfl
theorem wIN_X5 : Cond.initialized RX5 ∈ wB := wIn 35 (by decide +kernel) rfl
theorem wIN_java_lang_Throwable : Cond.initialized "java/lang/Throwable" ∈ wB := wIn 36 (by decide +kernel) rfl
theorem wIN_java_lang_Exception : Cond.initialized "java/lang/Exception" ∈ wB := wIn 37 (by decide +kernel) rfl
theorem wIN_java_lang_RuntimeException : Cond.initialized "java/lang/RuntimeException" ∈ wB := wIn 38 (by decide +kernel) rfl
theorem wIN_java_lang_IllegalArgumentException : Cond.initialized "java/lang/IllegalArgumentException" ∈ wB := wIn 39 (by decide +kernel) rfl
theorem wIN_java_lang_IllegalStateException : Cond.initialized "java/lang/IllegalStateException" ∈ wB := wIn 40 (by decide +kernel) rfl
theorem wIN_X3 : Cond.initialized RX3 ∈ wB := wIn 41 (by decide +kernel) rfl
theorem wIN_java_lang_IndexOutOfBoundsException : Cond.initialized "java/lang/IndexOutOfBoundsException" ∈ wB := wIn 42 (by decide +kernel) rfl
theorem wIN_J9 : Cond.initialized RJ9 ∈ wB := wIn 43 (by decide +kernel) rfl
theorem wIN_J6 : Cond.initialized RJ6 ∈ wB := wIn 44 (by decide +kernel) rfl
theorem wIN_X0 : Cond.initialized RX0 ∈ wB := wIn 45 (by decide +kernel) rfl
theorem wIN_X1 : Cond.initialized RX1 ∈ wB := wIn 46 (by decide +kernel) rfl
theorem wIN_J10 : Cond.initialized RJ10 ∈ wB := wIn 47 (by decide +kernel) rfl
theorem wIN_J13 : Cond.initialized RJ13 ∈ wB := wIn 48 (by decide +kernel) rfl
theorem wCL_L_8 : Cond.classLink RL 8 RX4 ∈ wB := wIn 49 (by decide +kernel) rfl
theorem wIS_X4 : Cond.instantiable RX4 7 ∈ wB := wIn 50 (by decide +kernel) rfl
theorem wML_L_73 : Cond.methodLink RL 73 yX4_init ∈ wB := wIn 51 (by decide +kernel) rfl
theorem wIM_X4_init : Cond.instanceMethod yX4_init ∈ wB := wIn 52 (by decide +kernel) rfl
theorem wCO_X4_init : Cond.code yX4_init cX4_init 1 none ∈ wB := wIn 53 (by decide +kernel) rfl
theorem wML_X4_1 : Cond.methodLink RX4 1 objectInit ∈ wB := wIn 54 (by decide +kernel) rfl
theorem wIM_java_lang_Object__init____V : Cond.instanceMethod objectInit ∈ wB := wIn 55 (by decide +kernel) rfl
theorem wCO_java_lang_Object__init____V : Cond.code objectInit object_method_1_code 1 none ∈ wB := wIn 56 (by decide +kernel) rfl
theorem wCL_X4_9 : Cond.classLink RX4 9 RX3 ∈ wB := wIn 57 (by decide +kernel) rfl
theorem warrayOver___object__BirdParlour_Spring__ : Cond.arrayOver (.object "BirdParlour$Spring") ∈ lw_tbl := List.mem_of_getElem? (i := 58) (by decide +kernel)
theorem wCL_X4_15 : Cond.classLink RX4 15 RX0 ∈ wB := wIn 59 (by decide +kernel) rfl
theorem warrayOver___object__BirdParlour_Bird__ : Cond.arrayOver (.object "BirdParlour$Bird") ∈ lw_tbl := List.mem_of_getElem? (i := 60) (by decide +kernel)
theorem wCL_X4_21 : Cond.classLink RX4 21 RX2 ∈ wB := wIn 61 (by decide +kernel) rfl
theorem wIS_X2 : Cond.instantiable RX2 5 ∈ wB := wIn 62 (by decide +kernel) rfl
theorem wMN_X4_23 : Cond.methodLinkNest RX4 23 yX2_init "BirdParlour" ∈ lw_tbl := List.mem_of_getElem? (i := 63) (by decide +kernel)
theorem wIM_X2_init : Cond.instanceMethod yX2_init ∈ wB := wIn 64 (by decide +kernel) rfl
theorem wCO_X2_init : Cond.code yX2_init cX2_init 1 none ∈ wB := wIn 65 (by decide +kernel) rfl
theorem wML_X2_3 : Cond.methodLink RX2 3 objectInit ∈ wB := wIn 66 (by decide +kernel) rfl
theorem wFL_X2_9 : Cond.fieldLink RX2 9 RX2 "kept" "[I" ∈ wB := wIn 67 (by decide +kernel) rfl
theorem wFL_X2_15 : Cond.fieldLink RX2 15 RX2 "keptNotes" "I" ∈ wB := wIn 68 (by decide +kernel) rfl
theorem wFL_X4_245 : Cond.fieldLink RX4 245 RX2 "keptNotes" "I" ∈ wB := wIn 69 (by decide +kernel) rfl
theorem wFL_X2_22 : Cond.fieldLink RX2 22 RX2 "allNotes" "I" ∈ wB := wIn 70 (by decide +kernel) rfl
theorem wFL_X4_237 : Cond.fieldLink RX4 237 RX2 "allNotes" "I" ∈ wB := wIn 71 (by decide +kernel) rfl
theorem wFL_X2_19 : Cond.fieldLink RX2 19 RX2 "keptBefore" "I" ∈ wB := wIn 72 (by decide +kernel) rfl
theorem wFL_X2_25 : Cond.fieldLink RX2 25 RX2 "allBefore" "I" ∈ wB := wIn 73 (by decide +kernel) rfl
theorem warrayClass__int : Cond.arrayClass .int ∈ wB := wIn 85 (by decide +kernel) rfl
theorem wFL_X4_11 : Cond.fieldLink RX4 11 RX4 "springs" "[LBirdParlour$Spring;" ∈ wB := wIn 86 (by decide +kernel) rfl
theorem wFL_X4_17 : Cond.fieldLink RX4 17 RX4 "birds" "[LBirdParlour$Bird;" ∈ wB := wIn 87 (by decide +kernel) rfl
theorem wFL_X4_24 : Cond.fieldLink RX4 24 RX4 "songs" "LBirdParlour$Songs;" ∈ wB := wIn 88 (by decide +kernel) rfl
theorem wFL_X4_39 : Cond.fieldLink RX4 39 RX4 "springCount" "I" ∈ wB := wIn 89 (by decide +kernel) rfl
theorem wFL_X4_114 : Cond.fieldLink RX4 114 RX4 "birdCount" "I" ∈ wB := wIn 90 (by decide +kernel) rfl
theorem wFL_X4_81 : Cond.fieldLink RX4 81 RX4 "couplings" "I" ∈ wB := wIn 91 (by decide +kernel) rfl
theorem wFL_X4_234 : Cond.fieldLink RX4 234 RX4 "tick" "I" ∈ wB := wIn 92 (by decide +kernel) rfl
theorem wML_L_138 : Cond.methodLink RL 138 yX4_longest ∈ wB := wIn 108 (by decide +kernel) rfl
theorem wIM_X4_longest : Cond.instanceMethod yX4_longest ∈ wB := wIn 109 (by decide +kernel) rfl
theorem wSE_X4_X4_longest : Cond.selects RX4 yX4_longest yX4_longest ∈ wB := wIn 110 (by decide +kernel) rfl
theorem wCO_X4_longest : Cond.code yX4_longest cX4_longest 6 (some .int) ∈ wB := wIn 111 (by decide +kernel) rfl
theorem wML_X4_252 : Cond.methodLink RX4 252 yX2_told ∈ wB := wIn 112 (by decide +kernel) rfl
theorem wIM_X2_told : Cond.instanceMethod yX2_told ∈ wB := wIn 113 (by decide +kernel) rfl
theorem wSE_X2_X2_told : Cond.selects RX2 yX2_told yX2_told ∈ wB := wIn 114 (by decide +kernel) rfl
theorem wCO_X2_told : Cond.code yX2_told cX2_told 3 (some .int) ∈ wB := wIn 115 (by decide +kernel) rfl
theorem wMN_X2_32 : Cond.methodLinkNest RX2 32 yX4_at "BirdParlour" ∈ lw_tbl := List.mem_of_getElem? (i := 116) (by decide +kernel)
theorem wST_X4_at : Cond.static yX4_at ∈ wB := wIn 117 (by decide +kernel) rfl
theorem wCO_X4_at : Cond.code yX4_at cX4_at 2 (some .int) ∈ wB := wIn 118 (by decide +kernel) rfl
theorem wML_X4_262 : Cond.methodLink RX4 262 Lib.Math.max.name ∈ wB := wIn 119 (by decide +kernel) rfl
theorem wST_J9_max_7cf53 : Cond.static Lib.Math.max.name ∈ wB := wIn 120 (by decide +kernel) rfl
theorem wCO_J9_max_7cf53 : Cond.code Lib.Math.max.name Lib.Math.max.code 2 (some .int) ∈ wB := wIn 121 (by decide +kernel) rfl
theorem wML_L_142 : Cond.methodLink RL 142 yX4_emptySongs ∈ wB := wIn 122 (by decide +kernel) rfl
theorem wIM_X4_emptySongs : Cond.instanceMethod yX4_emptySongs ∈ wB := wIn 123 (by decide +kernel) rfl
theorem wSE_X4_X4_emptySongs : Cond.selects RX4 yX4_emptySongs yX4_emptySongs ∈ wB := wIn 124 (by decide +kernel) rfl
theorem wCO_X4_emptySongs : Cond.code yX4_emptySongs cX4_emptySongs 2 (some .int) ∈ wB := wIn 125 (by decide +kernel) rfl
theorem wML_X4_265 : Cond.methodLink RX4 265 yX2_clearAll ∈ wB := wIn 126 (by decide +kernel) rfl
theorem wIM_X2_clearAll : Cond.instanceMethod yX2_clearAll ∈ wB := wIn 127 (by decide +kernel) rfl
theorem wSE_X2_X2_clearAll : Cond.selects RX2 yX2_clearAll yX2_clearAll ∈ wB := wIn 128 (by decide +kernel) rfl
theorem wCO_X2_clearAll : Cond.code yX2_clearAll cX2_clearAll 1 none ∈ wB := wIn 129 (by decide +kernel) rfl
theorem wML_L_149 : Cond.methodLink RL 149 yX4_tension ∈ wB := wIn 130 (by decide +kernel) rfl
theorem wIM_X4_tension : Cond.instanceMethod yX4_tension ∈ wB := wIn 131 (by decide +kernel) rfl
theorem wSE_X4_X4_tension : Cond.selects RX4 yX4_tension yX4_tension ∈ wB := wIn 132 (by decide +kernel) rfl
theorem wCO_X4_tension : Cond.code yX4_tension cX4_tension 1 (some .double) ∈ wB := wIn 133 (by decide +kernel) rfl
theorem wML_X4_240 : Cond.methodLink RX4 240 yX4_heldByAll ∈ wB := wIn 134 (by decide +kernel) rfl
theorem wPM_X4_heldByAll : Cond.privateMethod yX4_heldByAll ∈ lw_tbl := List.mem_of_getElem? (i := 135) (by decide +kernel)
theorem wIM_X4_heldByAll : Cond.instanceMethod yX4_heldByAll ∈ wB := wIn 136 (by decide +kernel) rfl
theorem wCO_X4_heldByAll : Cond.code yX4_heldByAll cX4_heldByAll 6 (some .int) ∈ wB := wIn 137 (by decide +kernel) rfl
theorem wML_L_154 : Cond.methodLink RL 154 yX4_digest ∈ wB := wIn 138 (by decide +kernel) rfl
theorem wIM_X4_digest : Cond.instanceMethod yX4_digest ∈ wB := wIn 139 (by decide +kernel) rfl
theorem wSE_X4_X4_digest : Cond.selects RX4 yX4_digest yX4_digest ∈ wB := wIn 140 (by decide +kernel) rfl
theorem wCO_X4_digest : Cond.code yX4_digest cX4_digest 5 (some .long) ∈ wB := wIn 141 (by decide +kernel) rfl
theorem wconstantLong_X4_280 : Cond.constantLong RX4 280 449 ∈ wB := wIn 142 (by decide +kernel) rfl
theorem wML_X4_282 : Cond.methodLink RX4 282 yX4_count ∈ wB := wIn 143 (by decide +kernel) rfl
theorem wIM_X4_count : Cond.instanceMethod yX4_count ∈ wB := wIn 144 (by decide +kernel) rfl
theorem wSE_X4_X4_count : Cond.selects RX4 yX4_count yX4_count ∈ wB := wIn 145 (by decide +kernel) rfl
theorem wCO_X4_count : Cond.code yX4_count cX4_count 2 (some .int) ∈ wB := wIn 146 (by decide +kernel) rfl
theorem wML_X4_84 : Cond.methodLink RX4 84 yJ6_bitCount_0f7a4 ∈ wB := wIn 147 (by decide +kernel) rfl
theorem wST_J6_bitCount_0f7a4 : Cond.static yJ6_bitCount_0f7a4 ∈ wB := wIn 148 (by decide +kernel) rfl
theorem wCO_J6_bitCount_0f7a4 : Cond.code yJ6_bitCount_0f7a4 cJ6_bitCount_0f7a4 1 (some .int) ∈ wB := wIn 149 (by decide +kernel) rfl
theorem wconstant_J6_265 : Cond.constant RJ6 265 1431655765 ∈ wB := wIn 150 (by decide +kernel) rfl
theorem wconstant_J6_266 : Cond.constant RJ6 266 858993459 ∈ wB := wIn 151 (by decide +kernel) rfl
theorem wconstant_J6_267 : Cond.constant RJ6 267 252645135 ∈ wB := wIn 152 (by decide +kernel) rfl
theorem wCL_X4_55 : Cond.classLink RX4 55 "java/lang/IndexOutOfBoundsException" ∈ wB := wIn 153 (by decide +kernel) rfl
theorem wCA_java_lang_IndexOutOfBoundsException_java_lang_IndexOutOfBoundsException : Cond.castable "java/lang/IndexOutOfBoundsException" "java/lang/IndexOutOfBoundsException" ∈ lw_tbl := List.mem_of_getElem? (i := 155) (by decide +kernel)
theorem wlaysStatic_java_lang_Throwable_UNASSIGNED_STACK : Cond.laysStatic "java/lang/Throwable" "UNASSIGNED_STACK" "[Ljava/lang/StackTraceElement;" ∈ lw_tbl := List.mem_of_getElem? (i := 180) (by decide +kernel)
theorem wlaysStatic_java_lang_Throwable_SUPPRESSED_SENTINEL : Cond.laysStatic "java/lang/Throwable" "SUPPRESSED_SENTINEL" "Ljava/util/List;" ∈ lw_tbl := List.mem_of_getElem? (i := 182) (by decide +kernel)
theorem wPM_java_lang_Throwable_fillInStackTrace__I_Ljava_lang_Throwable_ : Cond.privateMethod ⟨"java/lang/Throwable", "fillInStackTrace", "(I)Ljava/lang/Throwable;"⟩ ∈ lw_tbl := List.mem_of_getElem? (i := 190) (by decide +kernel)
theorem wNA_java_lang_Throwable_fillInStackTrace__I_Ljava_lang_Throwable_ : Cond.native ⟨"java/lang/Throwable", "fillInStackTrace", "(I)Ljava/lang/Throwable;"⟩ ∈ lw_tbl := List.mem_of_getElem? (i := 193) (by decide +kernel)
theorem wSR_243 : Cond.stringRef RX4 243 "what is not 0 to 5" ∈ lw_tbl := List.mem_of_getElem? (i := 194) (by decide +kernel)
theorem wML_X4_59 : Cond.methodLink RX4 59 ⟨"java/lang/IndexOutOfBoundsException", "<init>", "(Ljava/lang/String;)V"⟩ ∈ wB := wIn 195 (by decide +kernel) rfl
theorem warrayClass__byte : Cond.arrayClass .byte ∈ wB := wIn 220 (by decide +kernel) rfl
theorem wML_X4_285 : Cond.methodLink RX4 285 yX4_mix ∈ wB := wIn 221 (by decide +kernel) rfl
theorem wST_X4_mix : Cond.static yX4_mix ∈ wB := wIn 222 (by decide +kernel) rfl
theorem wCO_X4_mix : Cond.code yX4_mix cX4_mix 3 (some .long) ∈ wB := wIn 223 (by decide +kernel) rfl
theorem wconstantLong_X4_365 : Cond.constantLong RX4 365 31 ∈ wB := wIn 224 (by decide +kernel) rfl
theorem wML_X4_289 : Cond.methodLink RX4 289 yX4_spring ∈ wB := wIn 225 (by decide +kernel) rfl
theorem wIM_X4_spring : Cond.instanceMethod yX4_spring ∈ wB := wIn 226 (by decide +kernel) rfl
theorem wSE_X4_X4_spring : Cond.selects RX4 yX4_spring yX4_spring ∈ wB := wIn 227 (by decide +kernel) rfl
theorem wCO_X4_spring : Cond.code yX4_spring cX4_spring 4 (some .int) ∈ wB := wIn 228 (by decide +kernel) rfl
theorem wML_X4_51 : Cond.methodLink RX4 51 yX4_springAt ∈ wB := wIn 229 (by decide +kernel) rfl
theorem wPM_X4_springAt : Cond.privateMethod yX4_springAt ∈ lw_tbl := List.mem_of_getElem? (i := 230) (by decide +kernel)
theorem wIM_X4_springAt : Cond.instanceMethod yX4_springAt ∈ wB := wIn 231 (by decide +kernel) rfl
theorem wCO_X4_springAt : Cond.code yX4_springAt cX4_springAt 2 (some (.object "BirdParlour$Spring")) ∈ wB := wIn 232 (by decide +kernel) rfl
theorem wSR_57 : Cond.stringRef RX4 57 "no such spring" ∈ lw_tbl := List.mem_of_getElem? (i := 233) (by decide +kernel)
theorem wML_X4_100 : Cond.methodLink RX4 100 yX4_birdsDrivenBy ∈ wB := wIn 234 (by decide +kernel) rfl
theorem wPM_X4_birdsDrivenBy : Cond.privateMethod yX4_birdsDrivenBy ∈ lw_tbl := List.mem_of_getElem? (i := 235) (by decide +kernel)
theorem wIM_X4_birdsDrivenBy : Cond.instanceMethod yX4_birdsDrivenBy ∈ wB := wIn 236 (by decide +kernel) rfl
theorem wCO_X4_birdsDrivenBy : Cond.code yX4_birdsDrivenBy cX4_birdsDrivenBy 7 (some .int) ∈ wB := wIn 237 (by decide +kernel) rfl
theorem wML_X4_314 : Cond.methodLink RX4 314 yX0_isDrivenBy ∈ wB := wIn 238 (by decide +kernel) rfl
theorem wIM_X0_isDrivenBy : Cond.instanceMethod yX0_isDrivenBy ∈ wB := wIn 239 (by decide +kernel) rfl
theorem wSE_X0_X0_isDrivenBy : Cond.selects RX0 yX0_isDrivenBy yX0_isDrivenBy ∈ wB := wIn 240 (by decide +kernel) rfl
theorem wCO_X0_isDrivenBy : Cond.code yX0_isDrivenBy cX0_isDrivenBy 2 (some .boolean) ∈ wB := wIn 241 (by decide +kernel) rfl
theorem wML_X4_103 : Cond.methodLink RX4 103 yX4_loadOn ∈ wB := wIn 242 (by decide +kernel) rfl
theorem wPM_X4_loadOn : Cond.privateMethod yX4_loadOn ∈ lw_tbl := List.mem_of_getElem? (i := 243) (by decide +kernel)
theorem wIM_X4_loadOn : Cond.instanceMethod yX4_loadOn ∈ wB := wIn 244 (by decide +kernel) rfl
theorem wCO_X4_loadOn : Cond.code yX4_loadOn cX4_loadOn 7 (some .int) ∈ wB := wIn 245 (by decide +kernel) rfl
theorem wML_X4_345 : Cond.methodLink RX4 345 yX0_burden ∈ wB := wIn 246 (by decide +kernel) rfl
theorem wIM_X0_burden : Cond.instanceMethod yX0_burden ∈ wB := wIn 247 (by decide +kernel) rfl
theorem wSE_X0_X0_burden : Cond.selects RX0 yX0_burden yX0_burden ∈ wB := wIn 248 (by decide +kernel) rfl
theorem wCO_X0_burden : Cond.code yX0_burden cX0_burden 7 (some .int) ∈ wB := wIn 249 (by decide +kernel) rfl
theorem wML_X0_86 : Cond.methodLink RX0 86 yX0_placeNow ∈ wB := wIn 250 (by decide +kernel) rfl
theorem wIM_X0_placeNow : Cond.instanceMethod yX0_placeNow ∈ wB := wIn 251 (by decide +kernel) rfl
theorem wSE_X0_X0_placeNow : Cond.selects RX0 yX0_placeNow yX0_placeNow ∈ wB := wIn 252 (by decide +kernel) rfl
theorem wCO_X0_placeNow : Cond.code yX0_placeNow cX0_placeNow 1 (some .int) ∈ wB := wIn 253 (by decide +kernel) rfl
theorem wML_X0_63 : Cond.methodLink RX0 63 yX0_placeWhenGone ∈ wB := wIn 254 (by decide +kernel) rfl
theorem wIM_X0_placeWhenGone : Cond.instanceMethod yX0_placeWhenGone ∈ wB := wIn 255 (by decide +kernel) rfl
theorem wSE_X0_X0_placeWhenGone : Cond.selects RX0 yX0_placeWhenGone yX0_placeWhenGone ∈ wB := wIn 256 (by decide +kernel) rfl
theorem wCO_X0_placeWhenGone : Cond.code yX0_placeWhenGone cX0_placeWhenGone 3 (some .int) ∈ wB := wIn 257 (by decide +kernel) rfl
theorem wMN_X0_71 : Cond.methodLinkNest RX0 71 yX4_at "BirdParlour" ∈ lw_tbl := List.mem_of_getElem? (i := 258) (by decide +kernel)
theorem wSR_106 : Cond.stringRef RX4 106 "what is not 0 to 6" ∈ lw_tbl := List.mem_of_getElem? (i := 259) (by decide +kernel)
theorem wML_X4_291 : Cond.methodLink RX4 291 yX4_mixBird ∈ wB := wIn 260 (by decide +kernel) rfl
theorem wPM_X4_mixBird : Cond.privateMethod yX4_mixBird ∈ lw_tbl := List.mem_of_getElem? (i := 261) (by decide +kernel)
theorem wIM_X4_mixBird : Cond.instanceMethod yX4_mixBird ∈ wB := wIn 262 (by decide +kernel) rfl
theorem wCO_X4_mixBird : Cond.code yX4_mixBird cX4_mixBird 11 (some .long) ∈ wB := wIn 263 (by decide +kernel) rfl
theorem wML_X4_358 : Cond.methodLink RX4 358 yX4_bird ∈ wB := wIn 264 (by decide +kernel) rfl
theorem wIM_X4_bird : Cond.instanceMethod yX4_bird ∈ wB := wIn 265 (by decide +kernel) rfl
theorem wSE_X4_X4_bird : Cond.selects RX4 yX4_bird yX4_bird ∈ wB := wIn 266 (by decide +kernel) rfl
theorem wCO_X4_bird : Cond.code yX4_bird cX4_bird 4 (some .int) ∈ wB := wIn 267 (by decide +kernel) rfl
theorem wML_X4_122 : Cond.methodLink RX4 122 yX4_birdAt ∈ wB := wIn 268 (by decide +kernel) rfl
theorem wPM_X4_birdAt : Cond.privateMethod yX4_birdAt ∈ lw_tbl := List.mem_of_getElem? (i := 269) (by decide +kernel)
theorem wIM_X4_birdAt : Cond.instanceMethod yX4_birdAt ∈ wB := wIn 270 (by decide +kernel) rfl
theorem wCO_X4_birdAt : Cond.code yX4_birdAt cX4_birdAt 2 (some (.object "BirdParlour$Bird")) ∈ wB := wIn 271 (by decide +kernel) rfl
theorem wSR_126 : Cond.stringRef RX4 126 "no such bird" ∈ lw_tbl := List.mem_of_getElem? (i := 272) (by decide +kernel)
theorem wML_X4_212 : Cond.methodLink RX4 212 yX0_placeNow ∈ wB := wIn 273 (by decide +kernel) rfl
theorem wSR_222 : Cond.stringRef RX4 222 "what is not 0 to 9" ∈ lw_tbl := List.mem_of_getElem? (i := 274) (by decide +kernel)
theorem wML_X4_361 : Cond.methodLink RX4 361 yX4_lift ∈ wB := wIn 275 (by decide +kernel) rfl
theorem wIM_X4_lift : Cond.instanceMethod yX4_lift ∈ wB := wIn 276 (by decide +kernel) rfl
theorem wSE_X4_X4_lift : Cond.selects RX4 yX4_lift yX4_lift ∈ wB := wIn 277 (by decide +kernel) rfl
theorem wCO_X4_lift : Cond.code yX4_lift cX4_lift 6 (some .int) ∈ wB := wIn 278 (by decide +kernel) rfl
theorem wML_X4_173 : Cond.methodLink RX4 173 yX0_camAt ∈ wB := wIn 279 (by decide +kernel) rfl
theorem wIM_X0_camAt : Cond.instanceMethod yX0_camAt ∈ wB := wIn 280 (by decide +kernel) rfl
theorem wSE_X0_X0_camAt : Cond.selects RX0 yX0_camAt yX0_camAt ∈ wB := wIn 281 (by decide +kernel) rfl
theorem wCO_X0_camAt : Cond.code yX0_camAt cX0_camAt 2 (some (.object "BirdParlour$Cam")) ∈ wB := wIn 282 (by decide +kernel) rfl
theorem wSR_177 : Cond.stringRef RX4 177 "no such bird or cam" ∈ lw_tbl := List.mem_of_getElem? (i := 283) (by decide +kernel)
theorem wML_X4_138 : Cond.methodLink RX4 138 yX0_hasPlace ∈ wB := wIn 284 (by decide +kernel) rfl
theorem wIM_X0_hasPlace : Cond.instanceMethod yX0_hasPlace ∈ wB := wIn 285 (by decide +kernel) rfl
theorem wSE_X0_X0_hasPlace : Cond.selects RX0 yX0_hasPlace yX0_hasPlace ∈ wB := wIn 286 (by decide +kernel) rfl
theorem wCO_X0_hasPlace : Cond.code yX0_hasPlace cX0_hasPlace 2 (some .boolean) ∈ wB := wIn 287 (by decide +kernel) rfl
theorem wMN_X0_67 : Cond.methodLinkNest RX0 67 yX4_isIn "BirdParlour" ∈ lw_tbl := List.mem_of_getElem? (i := 288) (by decide +kernel)
theorem wST_X4_isIn : Cond.static yX4_isIn ∈ wB := wIn 289 (by decide +kernel) rfl
theorem wCO_X4_isIn : Cond.code yX4_isIn cX4_isIn 3 (some .boolean) ∈ wB := wIn 290 (by decide +kernel) rfl
theorem wCL_X4_32 : Cond.classLink RX4 32 "java/lang/IllegalArgumentException" ∈ wB := wIn 291 (by decide +kernel) rfl
theorem wCA_java_lang_IllegalArgumentException_java_lang_IllegalArgumentException : Cond.castable "java/lang/IllegalArgumentException" "java/lang/IllegalArgumentException" ∈ lw_tbl := List.mem_of_getElem? (i := 293) (by decide +kernel)
theorem wSR_224 : Cond.stringRef RX4 224 "place is neither -1 nor on the barrel" ∈ lw_tbl := List.mem_of_getElem? (i := 300) (by decide +kernel)
theorem wML_X4_36 : Cond.methodLink RX4 36 ⟨"java/lang/IllegalArgumentException", "<init>", "(Ljava/lang/String;)V"⟩ ∈ wB := wIn 301 (by decide +kernel) rfl
theorem wML_X4_165 : Cond.methodLink RX4 165 yX4_at ∈ wB := wIn 307 (by decide +kernel) rfl
theorem wML_X4_294 : Cond.methodLink RX4 294 yX4_sung ∈ wB := wIn 308 (by decide +kernel) rfl
theorem wIM_X4_sung : Cond.instanceMethod yX4_sung ∈ wB := wIn 309 (by decide +kernel) rfl
theorem wSE_X4_X4_sung : Cond.selects RX4 yX4_sung yX4_sung ∈ wB := wIn 310 (by decide +kernel) rfl
theorem wCO_X4_sung : Cond.code yX4_sung cX4_sung 3 (some .int) ∈ wB := wIn 311 (by decide +kernel) rfl
theorem wML_X4_28 : Cond.methodLink RX4 28 yX4_isIn ∈ wB := wIn 312 (by decide +kernel) rfl
theorem wSR_248 : Cond.stringRef RX4 248 "no such note" ∈ lw_tbl := List.mem_of_getElem? (i := 313) (by decide +kernel)
theorem wSR_250 : Cond.stringRef RX4 250 "what is not 0 to 3" ∈ lw_tbl := List.mem_of_getElem? (i := 314) (by decide +kernel)
theorem wML_L_77 : Cond.methodLink RL 77 yL_addSpring ∈ wB := wIn 315 (by decide +kernel) rfl
theorem wST_L_addSpring : Cond.static yL_addSpring ∈ wB := wIn 316 (by decide +kernel) rfl
theorem wCW_L_addSpring : Cond.codeWith yL_addSpring cL_addSpring 4 (some .int) [(0, 9, 12, 13), (0, 9, 15, 15)] ∈ wB := wIn 317 (by decide +kernel) rfl
theorem wCL_L_13 : Cond.classLink RL 13 "java/lang/IllegalArgumentException" ∈ wB := wIn 318 (by decide +kernel) rfl
theorem wCL_L_15 : Cond.classLink RL 15 "java/lang/IllegalStateException" ∈ wB := wIn 319 (by decide +kernel) rfl
theorem wML_L_7 : Cond.methodLink RL 7 yX4_addSpring ∈ wB := wIn 320 (by decide +kernel) rfl
theorem wIM_X4_addSpring : Cond.instanceMethod yX4_addSpring ∈ wB := wIn 321 (by decide +kernel) rfl
theorem wSE_X4_X4_addSpring : Cond.selects RX4 yX4_addSpring yX4_addSpring ∈ wB := wIn 322 (by decide +kernel) rfl
theorem wCO_X4_addSpring : Cond.code yX4_addSpring cX4_addSpring 3 (some .int) ∈ wB := wIn 323 (by decide +kernel) rfl
theorem wSR_34 : Cond.stringRef RX4 34 "strength is not 1 to 50" ∈ lw_tbl := List.mem_of_getElem? (i := 324) (by decide +kernel)
theorem wCL_X4_43 : Cond.classLink RX4 43 "java/lang/IllegalStateException" ∈ wB := wIn 325 (by decide +kernel) rfl
theorem wCA_java_lang_IllegalStateException_java_lang_IllegalStateException : Cond.castable "java/lang/IllegalStateException" "java/lang/IllegalStateException" ∈ lw_tbl := List.mem_of_getElem? (i := 327) (by decide +kernel)
theorem wSR_45 : Cond.stringRef RX4 45 "there are 4 springs" ∈ lw_tbl := List.mem_of_getElem? (i := 334) (by decide +kernel)
theorem wML_X4_47 : Cond.methodLink RX4 47 ⟨"java/lang/IllegalStateException", "<init>", "(Ljava/lang/String;)V"⟩ ∈ wB := wIn 335 (by decide +kernel) rfl
theorem wIS_X3 : Cond.instantiable RX3 8 ∈ wB := wIn 341 (by decide +kernel) rfl
theorem wML_X4_48 : Cond.methodLink RX4 48 yX3_init ∈ wB := wIn 342 (by decide +kernel) rfl
theorem wIM_X3_init : Cond.instanceMethod yX3_init ∈ wB := wIn 343 (by decide +kernel) rfl
theorem wCO_X3_init : Cond.code yX3_init cX3_init 2 none ∈ wB := wIn 344 (by decide +kernel) rfl
theorem wML_X3_3 : Cond.methodLink RX3 3 objectInit ∈ wB := wIn 345 (by decide +kernel) rfl
theorem wFL_X3_9 : Cond.fieldLink RX3 9 RX3 "strength" "I" ∈ wB := wIn 346 (by decide +kernel) rfl
theorem wFL_X4_90 : Cond.fieldLink RX4 90 RX3 "strength" "I" ∈ wB := wIn 347 (by decide +kernel) rfl
theorem wFL_X3_15 : Cond.fieldLink RX3 15 RX3 "held" "I" ∈ wB := wIn 348 (by decide +kernel) rfl
theorem wFL_X4_63 : Cond.fieldLink RX4 63 RX3 "held" "I" ∈ wB := wIn 349 (by decide +kernel) rfl
theorem wFL_X3_21 : Cond.fieldLink RX3 21 RX3 "shaft" "J" ∈ wB := wIn 350 (by decide +kernel) rfl
theorem wFL_X4_93 : Cond.fieldLink RX4 93 RX3 "shaft" "J" ∈ wB := wIn 351 (by decide +kernel) rfl
theorem wFL_X3_28 : Cond.fieldLink RX3 28 RX3 "speed" "I" ∈ wB := wIn 352 (by decide +kernel) rfl
theorem wFL_X4_97 : Cond.fieldLink RX4 97 RX3 "speed" "I" ∈ wB := wIn 353 (by decide +kernel) rfl
theorem wFL_X4_72 : Cond.fieldLink RX4 72 RX3 "isBraked" "Z" ∈ wB := wIn 354 (by decide +kernel) rfl
theorem wFL_X3_18 : Cond.fieldLink RX3 18 RX3 "heldBefore" "I" ∈ wB := wIn 355 (by decide +kernel) rfl
theorem wFL_X3_25 : Cond.fieldLink RX3 25 RX3 "shaftBefore" "J" ∈ wB := wIn 356 (by decide +kernel) rfl
theorem wFL_X3_31 : Cond.fieldLink RX3 31 RX3 "speedBefore" "I" ∈ wB := wIn 357 (by decide +kernel) rfl
theorem wML_L_87 : Cond.methodLink RL 87 yL_wind ∈ wB := wIn 375 (by decide +kernel) rfl
theorem wST_L_wind : Cond.static yL_wind ∈ wB := wIn 376 (by decide +kernel) rfl
theorem wCW_L_wind : Cond.codeWith yL_wind cL_wind 5 (some .int) [(0, 10, 13, 21), (0, 10, 17, 13)] ∈ wB := wIn 377 (by decide +kernel) rfl
theorem wCL_L_21 : Cond.classLink RL 21 "java/lang/IndexOutOfBoundsException" ∈ wB := wIn 378 (by decide +kernel) rfl
theorem wML_L_17 : Cond.methodLink RL 17 yX4_wind ∈ wB := wIn 379 (by decide +kernel) rfl
theorem wIM_X4_wind : Cond.instanceMethod yX4_wind ∈ wB := wIn 380 (by decide +kernel) rfl
theorem wSE_X4_X4_wind : Cond.selects RX4 yX4_wind yX4_wind ∈ wB := wIn 381 (by decide +kernel) rfl
theorem wCO_X4_wind : Cond.code yX4_wind cX4_wind 4 (some .int) ∈ wB := wIn 382 (by decide +kernel) rfl
theorem wconstant_X4_60 : Cond.constant RX4 60 200000 ∈ wB := wIn 383 (by decide +kernel) rfl
theorem wSR_61 : Cond.stringRef RX4 61 "turns is not 1 to 200000" ∈ lw_tbl := List.mem_of_getElem? (i := 384) (by decide +kernel)
theorem wML_X4_66 : Cond.methodLink RX4 66 Lib.Math.min.name ∈ wB := wIn 385 (by decide +kernel) rfl
theorem wST_J9_min_7cf53 : Cond.static Lib.Math.min.name ∈ wB := wIn 386 (by decide +kernel) rfl
theorem wCO_J9_min_7cf53 : Cond.code Lib.Math.min.name Lib.Math.min.code 2 (some .int) ∈ wB := wIn 387 (by decide +kernel) rfl
theorem wML_L_91 : Cond.methodLink RL 91 yL_brake ∈ wB := wIn 388 (by decide +kernel) rfl
theorem wST_L_brake : Cond.static yL_brake ∈ wB := wIn 389 (by decide +kernel) rfl
theorem wCW_L_brake : Cond.codeWith yL_brake cL_brake 5 (some .int) [(0, 17, 20, 21)] ∈ wB := wIn 390 (by decide +kernel) rfl
theorem wML_L_23 : Cond.methodLink RL 23 yX4_brake ∈ wB := wIn 391 (by decide +kernel) rfl
theorem wIM_X4_brake : Cond.instanceMethod yX4_brake ∈ wB := wIn 392 (by decide +kernel) rfl
theorem wSE_X4_X4_brake : Cond.selects RX4 yX4_brake yX4_brake ∈ wB := wIn 393 (by decide +kernel) rfl
theorem wCO_X4_brake : Cond.code yX4_brake cX4_brake 5 (some .boolean) ∈ wB := wIn 394 (by decide +kernel) rfl
theorem wML_L_95 : Cond.methodLink RL 95 yL_couple ∈ wB := wIn 395 (by decide +kernel) rfl
theorem wST_L_couple : Cond.static yL_couple ∈ wB := wIn 396 (by decide +kernel) rfl
theorem wCW_L_couple : Cond.codeWith yL_couple cL_couple 6 (some .int) [(0, 12, 15, 21), (0, 12, 19, 13)] ∈ wB := wIn 397 (by decide +kernel) rfl
theorem wML_L_27 : Cond.methodLink RL 27 yX4_couple ∈ wB := wIn 398 (by decide +kernel) rfl
theorem wIM_X4_couple : Cond.instanceMethod yX4_couple ∈ wB := wIn 399 (by decide +kernel) rfl
theorem wSE_X4_X4_couple : Cond.selects RX4 yX4_couple yX4_couple ∈ wB := wIn 400 (by decide +kernel) rfl
theorem wCO_X4_couple : Cond.code yX4_couple cX4_couple 5 (some .int) ∈ wB := wIn 401 (by decide +kernel) rfl
theorem wSR_76 : Cond.stringRef RX4 76 "both are the same spring" ∈ lw_tbl := List.mem_of_getElem? (i := 402) (by decide +kernel)
theorem wML_X4_78 : Cond.methodLink RX4 78 yX4_pairBit ∈ wB := wIn 403 (by decide +kernel) rfl
theorem wST_X4_pairBit : Cond.static yX4_pairBit ∈ wB := wIn 404 (by decide +kernel) rfl
theorem wCO_X4_pairBit : Cond.code yX4_pairBit cX4_pairBit 2 (some .int) ∈ wB := wIn 405 (by decide +kernel) rfl
theorem wML_L_99 : Cond.methodLink RL 99 yL_spring ∈ wB := wIn 406 (by decide +kernel) rfl
theorem wST_L_spring : Cond.static yL_spring ∈ wB := wIn 407 (by decide +kernel) rfl
theorem wCW_L_spring : Cond.codeWith yL_spring cL_spring 5 (some .int) [(0, 10, 13, 21)] ∈ wB := wIn 408 (by decide +kernel) rfl
theorem wML_L_31 : Cond.methodLink RL 31 yX4_spring ∈ wB := wIn 409 (by decide +kernel) rfl
theorem wML_L_102 : Cond.methodLink RL 102 yL_addBird ∈ wB := wIn 410 (by decide +kernel) rfl
theorem wST_L_addBird : Cond.static yL_addBird ∈ wB := wIn 411 (by decide +kernel) rfl
theorem wCW_L_addBird : Cond.codeWith yL_addBird cL_addBird 8 (some .int) [(0, 16, 19, 21), (0, 16, 23, 13), (0, 16, 27, 15)] ∈ wB := wIn 412 (by decide +kernel) rfl
theorem wML_L_34 : Cond.methodLink RL 34 yX4_addBird ∈ wB := wIn 413 (by decide +kernel) rfl
theorem wIM_X4_addBird : Cond.instanceMethod yX4_addBird ∈ wB := wIn 414 (by decide +kernel) rfl
theorem wSE_X4_X4_addBird : Cond.selects RX4 yX4_addBird yX4_addBird ∈ wB := wIn 415 (by decide +kernel) rfl
theorem wCO_X4_addBird : Cond.code yX4_addBird cX4_addBird 8 (some .int) ∈ wB := wIn 416 (by decide +kernel) rfl
theorem wSR_108 : Cond.stringRef RX4 108 "weight is not 0 to 20" ∈ lw_tbl := List.mem_of_getElem? (i := 417) (by decide +kernel)
theorem wSR_110 : Cond.stringRef RX4 110 "places is not 8 to 96" ∈ lw_tbl := List.mem_of_getElem? (i := 418) (by decide +kernel)
theorem wSR_112 : Cond.stringRef RX4 112 "p or q is not 1 to 12" ∈ lw_tbl := List.mem_of_getElem? (i := 419) (by decide +kernel)
theorem wSR_117 : Cond.stringRef RX4 117 "there are 8 birds" ∈ lw_tbl := List.mem_of_getElem? (i := 420) (by decide +kernel)
theorem wIS_X0 : Cond.instantiable RX0 15 ∈ wB := wIn 421 (by decide +kernel) rfl
theorem wML_X4_119 : Cond.methodLink RX4 119 yX0_init ∈ wB := wIn 422 (by decide +kernel) rfl
theorem wIM_X0_init : Cond.instanceMethod yX0_init ∈ wB := wIn 423 (by decide +kernel) rfl
theorem wCO_X0_init : Cond.code yX0_init cX0_init 9 none ∈ wB := wIn 424 (by decide +kernel) rfl
theorem wML_X0_3 : Cond.methodLink RX0 3 objectInit ∈ wB := wIn 425 (by decide +kernel) rfl
theorem wCL_X0_18 : Cond.classLink RX0 18 RX1 ∈ wB := wIn 426 (by decide +kernel) rfl
theorem warrayOver___object__BirdParlour_Cam__ : Cond.arrayOver (.object "BirdParlour$Cam") ∈ lw_tbl := List.mem_of_getElem? (i := 427) (by decide +kernel)
theorem wIS_X1 : Cond.instantiable RX1 3 ∈ wB := wIn 428 (by decide +kernel) rfl
theorem wMN_X0_48 : Cond.methodLinkNest RX0 48 yX1_init "BirdParlour" ∈ lw_tbl := List.mem_of_getElem? (i := 429) (by decide +kernel)
theorem wIM_X1_init : Cond.instanceMethod yX1_init ∈ wB := wIn 430 (by decide +kernel) rfl
theorem wCO_X1_init : Cond.code yX1_init cX1_init 1 none ∈ wB := wIn 431 (by decide +kernel) rfl
theorem wML_X1_3 : Cond.methodLink RX1 3 objectInit ∈ wB := wIn 432 (by decide +kernel) rfl
theorem wFL_X1_9 : Cond.fieldLink RX1 9 RX1 "marks" "[I" ∈ wB := wIn 433 (by decide +kernel) rfl
theorem wFL_X1_15 : Cond.fieldLink RX1 15 RX1 "lifts" "[I" ∈ wB := wIn 434 (by decide +kernel) rfl
theorem wFL_X0_90 : Cond.fieldLink RX0 90 RX1 "lifts" "[I" ∈ wB := wIn 435 (by decide +kernel) rfl
theorem wFL_X4_226 : Cond.fieldLink RX4 226 RX1 "lifts" "[I" ∈ wB := wIn 436 (by decide +kernel) rfl
theorem wFL_X1_26 : Cond.fieldLink RX1 26 RX1 "points" "I" ∈ wB := wIn 437 (by decide +kernel) rfl
theorem wFL_X4_188 : Cond.fieldLink RX4 188 RX1 "points" "I" ∈ wB := wIn 438 (by decide +kernel) rfl
theorem wFL_X0_24 : Cond.fieldLink RX0 24 RX0 "spring" "I" ∈ wB := wIn 446 (by decide +kernel) rfl
theorem wFL_X4_131 : Cond.fieldLink RX4 131 RX0 "spring" "I" ∈ wB := wIn 447 (by decide +kernel) rfl
theorem wFL_X0_28 : Cond.fieldLink RX0 28 RX0 "weight" "I" ∈ wB := wIn 448 (by decide +kernel) rfl
theorem wFL_X4_203 : Cond.fieldLink RX4 203 RX0 "weight" "I" ∈ wB := wIn 449 (by decide +kernel) rfl
theorem wFL_X0_31 : Cond.fieldLink RX0 31 RX0 "places" "I" ∈ wB := wIn 450 (by decide +kernel) rfl
theorem wFL_X4_193 : Cond.fieldLink RX4 193 RX0 "places" "I" ∈ wB := wIn 451 (by decide +kernel) rfl
theorem wFL_X0_34 : Cond.fieldLink RX0 34 RX0 "p" "I" ∈ wB := wIn 452 (by decide +kernel) rfl
theorem wFL_X4_206 : Cond.fieldLink RX4 206 RX0 "p" "I" ∈ wB := wIn 453 (by decide +kernel) rfl
theorem wFL_X0_37 : Cond.fieldLink RX0 37 RX0 "q" "I" ∈ wB := wIn 454 (by decide +kernel) rfl
theorem wFL_X4_209 : Cond.fieldLink RX4 209 RX0 "q" "I" ∈ wB := wIn 455 (by decide +kernel) rfl
theorem wFL_X0_9 : Cond.fieldLink RX0 9 RX0 "levers" "[I" ∈ wB := wIn 456 (by decide +kernel) rfl
theorem wFL_X4_331 : Cond.fieldLink RX4 331 RX0 "levers" "[I" ∈ wB := wIn 457 (by decide +kernel) rfl
theorem wFL_X0_15 : Cond.fieldLink RX0 15 RX0 "notes" "[I" ∈ wB := wIn 458 (by decide +kernel) rfl
theorem wFL_X4_161 : Cond.fieldLink RX4 161 RX0 "notes" "[I" ∈ wB := wIn 459 (by decide +kernel) rfl
theorem wFL_X0_20 : Cond.fieldLink RX0 20 RX0 "cams" "[LBirdParlour$Cam;" ∈ wB := wIn 460 (by decide +kernel) rfl
theorem wFL_X4_150 : Cond.fieldLink RX4 150 RX0 "pins" "I" ∈ wB := wIn 461 (by decide +kernel) rfl
theorem wFL_X0_75 : Cond.fieldLink RX0 75 RX0 "pins" "I" ∈ wB := wIn 462 (by decide +kernel) rfl
theorem wFL_X0_40 : Cond.fieldLink RX0 40 RX0 "isEngaged" "Z" ∈ wB := wIn 463 (by decide +kernel) rfl
theorem wFL_X4_128 : Cond.fieldLink RX4 128 RX0 "isEngaged" "Z" ∈ wB := wIn 464 (by decide +kernel) rfl
theorem wFL_X0_44 : Cond.fieldLink RX0 44 RX0 "shaftAtStart" "J" ∈ wB := wIn 465 (by decide +kernel) rfl
theorem wFL_X0_49 : Cond.fieldLink RX0 49 RX0 "gone" "J" ∈ wB := wIn 466 (by decide +kernel) rfl
theorem wFL_X4_216 : Cond.fieldLink RX4 216 RX0 "gone" "J" ∈ wB := wIn 467 (by decide +kernel) rfl
theorem wFL_X0_55 : Cond.fieldLink RX0 55 RX0 "sounded" "I" ∈ wB := wIn 468 (by decide +kernel) rfl
theorem wFL_X4_219 : Cond.fieldLink RX4 219 RX0 "sounded" "I" ∈ wB := wIn 469 (by decide +kernel) rfl
theorem wFL_X0_52 : Cond.fieldLink RX0 52 RX0 "goneBefore" "J" ∈ wB := wIn 470 (by decide +kernel) rfl
theorem wFL_X0_58 : Cond.fieldLink RX0 58 RX0 "soundedBefore" "I" ∈ wB := wIn 471 (by decide +kernel) rfl
theorem wML_L_106 : Cond.methodLink RL 106 yL_engage ∈ wB := wIn 503 (by decide +kernel) rfl
theorem wST_L_engage : Cond.static yL_engage ∈ wB := wIn 504 (by decide +kernel) rfl
theorem wCW_L_engage : Cond.codeWith yL_engage cL_engage 5 (some .int) [(0, 17, 20, 21)] ∈ wB := wIn 505 (by decide +kernel) rfl
theorem wML_L_38 : Cond.methodLink RL 38 yX4_engage ∈ wB := wIn 506 (by decide +kernel) rfl
theorem wIM_X4_engage : Cond.instanceMethod yX4_engage ∈ wB := wIn 507 (by decide +kernel) rfl
theorem wSE_X4_X4_engage : Cond.selects RX4 yX4_engage yX4_engage ∈ wB := wIn 508 (by decide +kernel) rfl
theorem wCO_X4_engage : Cond.code yX4_engage cX4_engage 6 (some .boolean) ∈ wB := wIn 509 (by decide +kernel) rfl
theorem wML_X4_134 : Cond.methodLink RX4 134 yX0_startAnew ∈ wB := wIn 510 (by decide +kernel) rfl
theorem wIM_X0_startAnew : Cond.instanceMethod yX0_startAnew ∈ wB := wIn 511 (by decide +kernel) rfl
theorem wSE_X0_X0_startAnew : Cond.selects RX0 yX0_startAnew yX0_startAnew ∈ wB := wIn 512 (by decide +kernel) rfl
theorem wCO_X0_startAnew : Cond.code yX0_startAnew cX0_startAnew 3 none ∈ wB := wIn 513 (by decide +kernel) rfl
theorem wML_L_109 : Cond.methodLink RL 109 yL_pin ∈ wB := wIn 514 (by decide +kernel) rfl
theorem wST_L_pin : Cond.static yL_pin ∈ wB := wIn 515 (by decide +kernel) rfl
theorem wCW_L_pin : Cond.codeWith yL_pin cL_pin 6 (some .int) [(0, 12, 15, 21), (0, 12, 19, 13), (0, 12, 23, 15)] ∈ wB := wIn 516 (by decide +kernel) rfl
theorem wML_L_41 : Cond.methodLink RL 41 yX4_pin ∈ wB := wIn 517 (by decide +kernel) rfl
theorem wIM_X4_pin : Cond.instanceMethod yX4_pin ∈ wB := wIn 518 (by decide +kernel) rfl
theorem wSE_X4_X4_pin : Cond.selects RX4 yX4_pin yX4_pin ∈ wB := wIn 519 (by decide +kernel) rfl
theorem wCO_X4_pin : Cond.code yX4_pin cX4_pin 5 (some .int) ∈ wB := wIn 520 (by decide +kernel) rfl
theorem wSR_142 : Cond.stringRef RX4 142 "place is not on the barrel" ∈ lw_tbl := List.mem_of_getElem? (i := 521) (by decide +kernel)
theorem wSR_144 : Cond.stringRef RX4 144 "lever is not 0 to 5" ∈ lw_tbl := List.mem_of_getElem? (i := 522) (by decide +kernel)
theorem wML_X4_146 : Cond.methodLink RX4 146 yX0_hasPin ∈ wB := wIn 523 (by decide +kernel) rfl
theorem wIM_X0_hasPin : Cond.instanceMethod yX0_hasPin ∈ wB := wIn 524 (by decide +kernel) rfl
theorem wSE_X0_X0_hasPin : Cond.selects RX0 yX0_hasPin yX0_hasPin ∈ wB := wIn 525 (by decide +kernel) rfl
theorem wCO_X0_hasPin : Cond.code yX0_hasPin cX0_hasPin 3 (some .boolean) ∈ wB := wIn 526 (by decide +kernel) rfl
theorem wSR_153 : Cond.stringRef RX4 153 "there are 24 pins" ∈ lw_tbl := List.mem_of_getElem? (i := 527) (by decide +kernel)
theorem wML_X4_155 : Cond.methodLink RX4 155 yX0_turnPin ∈ wB := wIn 528 (by decide +kernel) rfl
theorem wIM_X0_turnPin : Cond.instanceMethod yX0_turnPin ∈ wB := wIn 529 (by decide +kernel) rfl
theorem wSE_X0_X0_turnPin : Cond.selects RX0 yX0_turnPin yX0_turnPin ∈ wB := wIn 530 (by decide +kernel) rfl
theorem wCO_X0_turnPin : Cond.code yX0_turnPin cX0_turnPin 3 none ∈ wB := wIn 531 (by decide +kernel) rfl
theorem wML_X0_78 : Cond.methodLink RX0 78 yX0_hasPin ∈ wB := wIn 532 (by decide +kernel) rfl
theorem wMN_X0_82 : Cond.methodLinkNest RX0 82 yX4_put "BirdParlour" ∈ lw_tbl := List.mem_of_getElem? (i := 533) (by decide +kernel)
theorem wST_X4_put : Cond.static yX4_put ∈ wB := wIn 534 (by decide +kernel) rfl
theorem wCO_X4_put : Cond.code yX4_put cX4_put 3 none ∈ wB := wIn 535 (by decide +kernel) rfl
theorem wML_L_113 : Cond.methodLink RL 113 yL_tune ∈ wB := wIn 536 (by decide +kernel) rfl
theorem wST_L_tune : Cond.static yL_tune ∈ wB := wIn 537 (by decide +kernel) rfl
theorem wCW_L_tune : Cond.codeWith yL_tune cL_tune 6 (some .int) [(0, 12, 15, 21), (0, 12, 19, 13)] ∈ wB := wIn 538 (by decide +kernel) rfl
theorem wML_L_45 : Cond.methodLink RL 45 yX4_tune ∈ wB := wIn 539 (by decide +kernel) rfl
theorem wIM_X4_tune : Cond.instanceMethod yX4_tune ∈ wB := wIn 540 (by decide +kernel) rfl
theorem wSE_X4_X4_tune : Cond.selects RX4 yX4_tune yX4_tune ∈ wB := wIn 541 (by decide +kernel) rfl
theorem wCO_X4_tune : Cond.code yX4_tune cX4_tune 6 (some .int) ∈ wB := wIn 542 (by decide +kernel) rfl
theorem wSR_159 : Cond.stringRef RX4 159 "note is not 0 to 87" ∈ lw_tbl := List.mem_of_getElem? (i := 543) (by decide +kernel)
theorem wML_X4_169 : Cond.methodLink RX4 169 yX4_put ∈ wB := wIn 544 (by decide +kernel) rfl
theorem wML_L_116 : Cond.methodLink RL 116 yL_point ∈ wB := wIn 545 (by decide +kernel) rfl
theorem wST_L_point : Cond.static yL_point ∈ wB := wIn 546 (by decide +kernel) rfl
theorem wCW_L_point : Cond.codeWith yL_point cL_point 7 (some .int) [(0, 14, 17, 21), (0, 14, 21, 13), (0, 14, 25, 15)] ∈ wB := wIn 547 (by decide +kernel) rfl
theorem wML_L_48 : Cond.methodLink RL 48 yX4_point ∈ wB := wIn 548 (by decide +kernel) rfl
theorem wIM_X4_point : Cond.instanceMethod yX4_point ∈ wB := wIn 549 (by decide +kernel) rfl
theorem wSE_X4_X4_point : Cond.selects RX4 yX4_point yX4_point ∈ wB := wIn 550 (by decide +kernel) rfl
theorem wCO_X4_point : Cond.code yX4_point cX4_point 8 (some .int) ∈ wB := wIn 551 (by decide +kernel) rfl
theorem wSR_179 : Cond.stringRef RX4 179 "lift is not -1 to 100" ∈ lw_tbl := List.mem_of_getElem? (i := 552) (by decide +kernel)
theorem wML_X4_181 : Cond.methodLink RX4 181 yX1_hasPoint ∈ wB := wIn 553 (by decide +kernel) rfl
theorem wIM_X1_hasPoint : Cond.instanceMethod yX1_hasPoint ∈ wB := wIn 554 (by decide +kernel) rfl
theorem wSE_X1_X1_hasPoint : Cond.selects RX1 yX1_hasPoint yX1_hasPoint ∈ wB := wIn 555 (by decide +kernel) rfl
theorem wCO_X1_hasPoint : Cond.code yX1_hasPoint cX1_hasPoint 2 (some .boolean) ∈ wB := wIn 556 (by decide +kernel) rfl
theorem wMN_X1_18 : Cond.methodLinkNest RX1 18 yX4_at "BirdParlour" ∈ lw_tbl := List.mem_of_getElem? (i := 557) (by decide +kernel)
theorem wSR_186 : Cond.stringRef RX4 186 "there is no point to take away" ∈ lw_tbl := List.mem_of_getElem? (i := 558) (by decide +kernel)
theorem wSR_191 : Cond.stringRef RX4 191 "the cam has 8 points" ∈ lw_tbl := List.mem_of_getElem? (i := 559) (by decide +kernel)
theorem wML_X4_196 : Cond.methodLink RX4 196 yX1_takePoint ∈ wB := wIn 560 (by decide +kernel) rfl
theorem wIM_X1_takePoint : Cond.instanceMethod yX1_takePoint ∈ wB := wIn 561 (by decide +kernel) rfl
theorem wSE_X1_X1_takePoint : Cond.selects RX1 yX1_takePoint yX1_takePoint ∈ wB := wIn 562 (by decide +kernel) rfl
theorem wCO_X1_takePoint : Cond.code yX1_takePoint cX1_takePoint 3 none ∈ wB := wIn 563 (by decide +kernel) rfl
theorem wML_X1_22 : Cond.methodLink RX1 22 yX1_hasPoint ∈ wB := wIn 564 (by decide +kernel) rfl
theorem wMN_X1_30 : Cond.methodLinkNest RX1 30 yX4_put "BirdParlour" ∈ lw_tbl := List.mem_of_getElem? (i := 565) (by decide +kernel)
theorem wML_X1_34 : Cond.methodLink RX1 34 yX1_draw ∈ wB := wIn 566 (by decide +kernel) rfl
theorem wIM_X1_draw : Cond.instanceMethod yX1_draw ∈ wB := wIn 567 (by decide +kernel) rfl
theorem wSE_X1_X1_draw : Cond.selects RX1 yX1_draw yX1_draw ∈ wB := wIn 568 (by decide +kernel) rfl
theorem wCO_X1_draw : Cond.code yX1_draw cX1_draw 3 none ∈ wB := wIn 569 (by decide +kernel) rfl
theorem wML_X1_38 : Cond.methodLink RX1 38 yX1_drawBehind ∈ wB := wIn 570 (by decide +kernel) rfl
theorem wIM_X1_drawBehind : Cond.instanceMethod yX1_drawBehind ∈ wB := wIn 571 (by decide +kernel) rfl
theorem wSE_X1_X1_drawBehind : Cond.selects RX1 yX1_drawBehind yX1_drawBehind ∈ wB := wIn 572 (by decide +kernel) rfl
theorem wCO_X1_drawBehind : Cond.code yX1_drawBehind cX1_drawBehind 7 none ∈ wB := wIn 573 (by decide +kernel) rfl
theorem wMN_X1_42 : Cond.methodLinkNest RX1 42 yX4_remainder "BirdParlour" ∈ lw_tbl := List.mem_of_getElem? (i := 574) (by decide +kernel)
theorem wST_X4_remainder : Cond.static yX4_remainder ∈ wB := wIn 575 (by decide +kernel) rfl
theorem wCO_X4_remainder : Cond.code yX4_remainder cX4_remainder 2 (some .int) ∈ wB := wIn 576 (by decide +kernel) rfl
theorem wML_X1_46 : Cond.methodLink RX1 46 yJ9_floorDiv_7cf53 ∈ wB := wIn 577 (by decide +kernel) rfl
theorem wST_J9_floorDiv_7cf53 : Cond.static yJ9_floorDiv_7cf53 ∈ wB := wIn 578 (by decide +kernel) rfl
theorem wCO_J9_floorDiv_7cf53 : Cond.code yJ9_floorDiv_7cf53 cJ9_floorDiv_7cf53 3 (some .int) ∈ wB := wIn 579 (by decide +kernel) rfl
theorem wML_X4_199 : Cond.methodLink RX4 199 yX1_layPoint ∈ wB := wIn 580 (by decide +kernel) rfl
theorem wIM_X1_layPoint : Cond.instanceMethod yX1_layPoint ∈ wB := wIn 581 (by decide +kernel) rfl
theorem wSE_X1_X1_layPoint : Cond.selects RX1 yX1_layPoint yX1_layPoint ∈ wB := wIn 582 (by decide +kernel) rfl
theorem wCO_X1_layPoint : Cond.code yX1_layPoint cX1_layPoint 4 none ∈ wB := wIn 583 (by decide +kernel) rfl
theorem wML_L_120 : Cond.methodLink RL 120 yL_bird ∈ wB := wIn 584 (by decide +kernel) rfl
theorem wST_L_bird : Cond.static yL_bird ∈ wB := wIn 585 (by decide +kernel) rfl
theorem wCW_L_bird : Cond.codeWith yL_bird cL_bird 5 (some .int) [(0, 10, 13, 21)] ∈ wB := wIn 586 (by decide +kernel) rfl
theorem wML_L_52 : Cond.methodLink RL 52 yX4_bird ∈ wB := wIn 587 (by decide +kernel) rfl
theorem wML_L_123 : Cond.methodLink RL 123 yL_lift ∈ wB := wIn 588 (by decide +kernel) rfl
theorem wST_L_lift : Cond.static yL_lift ∈ wB := wIn 589 (by decide +kernel) rfl
theorem wCW_L_lift : Cond.codeWith yL_lift cL_lift 6 (some .int) [(0, 12, 15, 21), (0, 12, 19, 13)] ∈ wB := wIn 590 (by decide +kernel) rfl
theorem wML_L_55 : Cond.methodLink RL 55 yX4_lift ∈ wB := wIn 591 (by decide +kernel) rfl
theorem wML_L_126 : Cond.methodLink RL 126 yL_run ∈ wB := wIn 592 (by decide +kernel) rfl
theorem wST_L_run : Cond.static yL_run ∈ wB := wIn 593 (by decide +kernel) rfl
theorem wCW_L_run : Cond.codeWith yL_run cL_run 4 (some .int) [(0, 9, 12, 13)] ∈ wB := wIn 594 (by decide +kernel) rfl
theorem wML_L_58 : Cond.methodLink RL 58 yX4_run ∈ wB := wIn 595 (by decide +kernel) rfl
theorem wIM_X4_run : Cond.instanceMethod yX4_run ∈ wB := wIn 596 (by decide +kernel) rfl
theorem wSE_X4_X4_run : Cond.selects RX4 yX4_run yX4_run ∈ wB := wIn 597 (by decide +kernel) rfl
theorem wCO_X4_run : Cond.code yX4_run cX4_run 4 (some .int) ∈ wB := wIn 598 (by decide +kernel) rfl
theorem wSR_229 : Cond.stringRef RX4 229 "ticks is not 1 to 500" ∈ lw_tbl := List.mem_of_getElem? (i := 599) (by decide +kernel)
theorem wML_X4_231 : Cond.methodLink RX4 231 yX4_goOneTick ∈ wB := wIn 600 (by decide +kernel) rfl
theorem wPM_X4_goOneTick : Cond.privateMethod yX4_goOneTick ∈ lw_tbl := List.mem_of_getElem? (i := 601) (by decide +kernel)
theorem wIM_X4_goOneTick : Cond.instanceMethod yX4_goOneTick ∈ wB := wIn 602 (by decide +kernel) rfl
theorem wCO_X4_goOneTick : Cond.code yX4_goOneTick cX4_goOneTick 4 (some .int) ∈ wB := wIn 603 (by decide +kernel) rfl
theorem wML_X4_297 : Cond.methodLink RX4 297 yX4_shareBetweenCoupled ∈ wB := wIn 604 (by decide +kernel) rfl
theorem wPM_X4_shareBetweenCoupled : Cond.privateMethod yX4_shareBetweenCoupled ∈ lw_tbl := List.mem_of_getElem? (i := 605) (by decide +kernel)
theorem wIM_X4_shareBetweenCoupled : Cond.instanceMethod yX4_shareBetweenCoupled ∈ wB := wIn 606 (by decide +kernel) rfl
theorem wCO_X4_shareBetweenCoupled : Cond.code yX4_shareBetweenCoupled cX4_shareBetweenCoupled 3 none ∈ wB := wIn 607 (by decide +kernel) rfl
theorem wML_X4_304 : Cond.methodLink RX4 304 yX4_shareBetween ∈ wB := wIn 608 (by decide +kernel) rfl
theorem wST_X4_shareBetween : Cond.static yX4_shareBetween ∈ wB := wIn 609 (by decide +kernel) rfl
theorem wCO_X4_shareBetween : Cond.code yX4_shareBetween cX4_shareBetween 3 none ∈ wB := wIn 610 (by decide +kernel) rfl
theorem wML_X4_300 : Cond.methodLink RX4 300 yX4_goShaft ∈ wB := wIn 611 (by decide +kernel) rfl
theorem wPM_X4_goShaft : Cond.privateMethod yX4_goShaft ∈ lw_tbl := List.mem_of_getElem? (i := 612) (by decide +kernel)
theorem wIM_X4_goShaft : Cond.instanceMethod yX4_goShaft ∈ wB := wIn 613 (by decide +kernel) rfl
theorem wCO_X4_goShaft : Cond.code yX4_goShaft cX4_goShaft 6 (some .int) ∈ wB := wIn 614 (by decide +kernel) rfl
theorem wML_X4_308 : Cond.methodLink RX4 308 yX3_speedUnder ∈ wB := wIn 615 (by decide +kernel) rfl
theorem wIM_X3_speedUnder : Cond.instanceMethod yX3_speedUnder ∈ wB := wIn 616 (by decide +kernel) rfl
theorem wSE_X3_X3_speedUnder : Cond.selects RX3 yX3_speedUnder yX3_speedUnder ∈ wB := wIn 617 (by decide +kernel) rfl
theorem wCO_X3_speedUnder : Cond.code yX3_speedUnder cX3_speedUnder 4 (some .int) ∈ wB := wIn 618 (by decide +kernel) rfl
theorem wML_X3_34 : Cond.methodLink RX3 34 Lib.Math.max.name ∈ wB := wIn 619 (by decide +kernel) rfl
theorem wML_X3_40 : Cond.methodLink RX3 40 Lib.Math.min.name ∈ wB := wIn 620 (by decide +kernel) rfl
theorem wML_X4_311 : Cond.methodLink RX4 311 yX3_turn ∈ wB := wIn 621 (by decide +kernel) rfl
theorem wIM_X3_turn : Cond.instanceMethod yX3_turn ∈ wB := wIn 622 (by decide +kernel) rfl
theorem wSE_X3_X3_turn : Cond.selects RX3 yX3_turn yX3_turn ∈ wB := wIn 623 (by decide +kernel) rfl
theorem wCO_X3_turn : Cond.code yX3_turn cX3_turn 2 none ∈ wB := wIn 624 (by decide +kernel) rfl
theorem wML_X4_317 : Cond.methodLink RX4 317 yX4_goBarrel ∈ wB := wIn 625 (by decide +kernel) rfl
theorem wPM_X4_goBarrel : Cond.privateMethod yX4_goBarrel ∈ lw_tbl := List.mem_of_getElem? (i := 626) (by decide +kernel)
theorem wIM_X4_goBarrel : Cond.instanceMethod yX4_goBarrel ∈ wB := wIn 627 (by decide +kernel) rfl
theorem wCO_X4_goBarrel : Cond.code yX4_goBarrel cX4_goBarrel 10 (some .int) ∈ wB := wIn 628 (by decide +kernel) rfl
theorem wML_X4_321 : Cond.methodLink RX4 321 yX0_goneWhen ∈ wB := wIn 629 (by decide +kernel) rfl
theorem wIM_X0_goneWhen : Cond.instanceMethod yX0_goneWhen ∈ wB := wIn 630 (by decide +kernel) rfl
theorem wSE_X0_X0_goneWhen : Cond.selects RX0 yX0_goneWhen yX0_goneWhen ∈ wB := wIn 631 (by decide +kernel) rfl
theorem wCO_X0_goneWhen : Cond.code yX0_goneWhen cX0_goneWhen 5 (some .long) ∈ wB := wIn 632 (by decide +kernel) rfl
theorem wconstantLong_X0_61 : Cond.constantLong RX0 61 1000 ∈ wB := wIn 633 (by decide +kernel) rfl
theorem wML_X4_325 : Cond.methodLink RX4 325 Lib.MathLoose.min_long.x ∈ wB := wIn 634 (by decide +kernel) rfl
theorem wST_J9_min_f86c9 : Cond.static Lib.MathLoose.min_long.x ∈ wB := wIn 635 (by decide +kernel) rfl
theorem wCO_J9_min_f86c9 : Cond.code Lib.MathLoose.min_long.x Lib.MathLoose.min_long.code 4 (some .long) ∈ wB := wIn 636 (by decide +kernel) rfl
theorem wML_X4_328 : Cond.methodLink RX4 328 yX0_placeWhenGone ∈ wB := wIn 637 (by decide +kernel) rfl
theorem wML_X4_334 : Cond.methodLink RX4 334 yX4_soundPlace ∈ wB := wIn 638 (by decide +kernel) rfl
theorem wPM_X4_soundPlace : Cond.privateMethod yX4_soundPlace ∈ lw_tbl := List.mem_of_getElem? (i := 639) (by decide +kernel)
theorem wIM_X4_soundPlace : Cond.instanceMethod yX4_soundPlace ∈ wB := wIn 640 (by decide +kernel) rfl
theorem wCO_X4_soundPlace : Cond.code yX4_soundPlace cX4_soundPlace 7 (some .int) ∈ wB := wIn 641 (by decide +kernel) rfl
theorem wML_X4_338 : Cond.methodLink RX4 338 yX3_payForNote ∈ wB := wIn 642 (by decide +kernel) rfl
theorem wIM_X3_payForNote : Cond.instanceMethod yX3_payForNote ∈ wB := wIn 643 (by decide +kernel) rfl
theorem wSE_X3_X3_payForNote : Cond.selects RX3 yX3_payForNote yX3_payForNote ∈ wB := wIn 644 (by decide +kernel) rfl
theorem wCO_X3_payForNote : Cond.code yX3_payForNote cX3_payForNote 1 none ∈ wB := wIn 645 (by decide +kernel) rfl
theorem wML_X4_341 : Cond.methodLink RX4 341 yX2_hear ∈ wB := wIn 646 (by decide +kernel) rfl
theorem wIM_X2_hear : Cond.instanceMethod yX2_hear ∈ wB := wIn 647 (by decide +kernel) rfl
theorem wSE_X2_X2_hear : Cond.selects RX2 yX2_hear yX2_hear ∈ wB := wIn 648 (by decide +kernel) rfl
theorem wCO_X2_hear : Cond.code yX2_hear cX2_hear 6 none ∈ wB := wIn 649 (by decide +kernel) rfl
theorem wMN_X2_28 : Cond.methodLinkNest RX2 28 yX4_put "BirdParlour" ∈ lw_tbl := List.mem_of_getElem? (i := 650) (by decide +kernel)
theorem wML_L_129 : Cond.methodLink RL 129 yL_count ∈ wB := wIn 651 (by decide +kernel) rfl
theorem wST_L_count : Cond.static yL_count ∈ wB := wIn 652 (by decide +kernel) rfl
theorem wCW_L_count : Cond.codeWith yL_count cL_count 4 (some .int) [(0, 9, 12, 21)] ∈ wB := wIn 653 (by decide +kernel) rfl
theorem wML_L_61 : Cond.methodLink RL 61 yX4_count ∈ wB := wIn 654 (by decide +kernel) rfl
theorem wML_L_132 : Cond.methodLink RL 132 yL_sung ∈ wB := wIn 655 (by decide +kernel) rfl
theorem wST_L_sung : Cond.static yL_sung ∈ wB := wIn 656 (by decide +kernel) rfl
theorem wCW_L_sung : Cond.codeWith yL_sung cL_sung 5 (some .int) [(0, 10, 13, 21)] ∈ wB := wIn 657 (by decide +kernel) rfl
theorem wML_L_64 : Cond.methodLink RL 64 yX4_sung ∈ wB := wIn 658 (by decide +kernel) rfl
theorem wML_L_135 : Cond.methodLink RL 135 yL_chord ∈ wB := wIn 659 (by decide +kernel) rfl
theorem wST_L_chord : Cond.static yL_chord ∈ wB := wIn 660 (by decide +kernel) rfl
theorem wCW_L_chord : Cond.codeWith yL_chord cL_chord 4 (some .int) [(0, 9, 12, 13)] ∈ wB := wIn 661 (by decide +kernel) rfl
theorem wML_L_67 : Cond.methodLink RL 67 yX4_chord ∈ wB := wIn 662 (by decide +kernel) rfl
theorem wIM_X4_chord : Cond.instanceMethod yX4_chord ∈ wB := wIn 663 (by decide +kernel) rfl
theorem wSE_X4_X4_chord : Cond.selects RX4 yX4_chord yX4_chord ∈ wB := wIn 664 (by decide +kernel) rfl
theorem wCO_X4_chord : Cond.code yX4_chord cX4_chord 8 (some .int) ∈ wB := wIn 665 (by decide +kernel) rfl
theorem wSR_255 : Cond.stringRef RX4 255 "tick is less than 0" ∈ lw_tbl := List.mem_of_getElem? (i := 666) (by decide +kernel)
theorem wML_X4_257 : Cond.methodLink RX4 257 yJ13_bitCount_95d88 ∈ wB := wIn 667 (by decide +kernel) rfl
theorem wST_J13_bitCount_95d88 : Cond.static yJ13_bitCount_95d88 ∈ wB := wIn 668 (by decide +kernel) rfl
theorem wCO_J13_bitCount_95d88 : Cond.code yJ13_bitCount_95d88 cJ13_bitCount_95d88 2 (some .int) ∈ wB := wIn 669 (by decide +kernel) rfl
theorem wconstantLong_J13_314 : Cond.constantLong RJ13 314 6148914691236517205 ∈ wB := wIn 670 (by decide +kernel) rfl
theorem wconstantLong_J13_316 : Cond.constantLong RJ13 316 3689348814741910323 ∈ wB := wIn 671 (by decide +kernel) rfl
theorem wconstantLong_J13_318 : Cond.constantLong RJ13 318 1085102592571150095 ∈ wB := wIn 672 (by decide +kernel) rfl
theorem wML_L_146 : Cond.methodLink RL 146 yL_runsDown ∈ wB := wIn 673 (by decide +kernel) rfl
theorem wST_L_runsDown : Cond.static yL_runsDown ∈ wB := wIn 674 (by decide +kernel) rfl
theorem wCW_L_runsDown : Cond.codeWith yL_runsDown cL_runsDown 4 (some .int) [(0, 9, 12, 13)] ∈ wB := wIn 675 (by decide +kernel) rfl
theorem wML_L_70 : Cond.methodLink RL 70 yX4_runsDown ∈ wB := wIn 676 (by decide +kernel) rfl
theorem wIM_X4_runsDown : Cond.instanceMethod yX4_runsDown ∈ wB := wIn 677 (by decide +kernel) rfl
theorem wSE_X4_X4_runsDown : Cond.selects RX4 yX4_runsDown yX4_runsDown ∈ wB := wIn 678 (by decide +kernel) rfl
theorem wCO_X4_runsDown : Cond.code yX4_runsDown cX4_runsDown 5 (some .int) ∈ wB := wIn 679 (by decide +kernel) rfl
theorem wSR_268 : Cond.stringRef RX4 268 "most is not 1 to 2000" ∈ lw_tbl := List.mem_of_getElem? (i := 680) (by decide +kernel)
theorem wML_X4_270 : Cond.methodLink RX4 270 yX4_rememberAll ∈ wB := wIn 681 (by decide +kernel) rfl
theorem wPM_X4_rememberAll : Cond.privateMethod yX4_rememberAll ∈ lw_tbl := List.mem_of_getElem? (i := 682) (by decide +kernel)
theorem wIM_X4_rememberAll : Cond.instanceMethod yX4_rememberAll ∈ wB := wIn 683 (by decide +kernel) rfl
theorem wCO_X4_rememberAll : Cond.code yX4_rememberAll cX4_rememberAll 5 none ∈ wB := wIn 684 (by decide +kernel) rfl
theorem wML_X4_348 : Cond.methodLink RX4 348 yX3_remember ∈ wB := wIn 685 (by decide +kernel) rfl
theorem wIM_X3_remember : Cond.instanceMethod yX3_remember ∈ wB := wIn 686 (by decide +kernel) rfl
theorem wSE_X3_X3_remember : Cond.selects RX3 yX3_remember yX3_remember ∈ wB := wIn 687 (by decide +kernel) rfl
theorem wCO_X3_remember : Cond.code yX3_remember cX3_remember 1 none ∈ wB := wIn 688 (by decide +kernel) rfl
theorem wML_X4_351 : Cond.methodLink RX4 351 yX0_remember ∈ wB := wIn 689 (by decide +kernel) rfl
theorem wIM_X0_remember : Cond.instanceMethod yX0_remember ∈ wB := wIn 690 (by decide +kernel) rfl
theorem wSE_X0_X0_remember : Cond.selects RX0 yX0_remember yX0_remember ∈ wB := wIn 691 (by decide +kernel) rfl
theorem wCO_X0_remember : Cond.code yX0_remember cX0_remember 1 none ∈ wB := wIn 692 (by decide +kernel) rfl
theorem wML_X4_352 : Cond.methodLink RX4 352 yX2_remember ∈ wB := wIn 693 (by decide +kernel) rfl
theorem wIM_X2_remember : Cond.instanceMethod yX2_remember ∈ wB := wIn 694 (by decide +kernel) rfl
theorem wSE_X2_X2_remember : Cond.selects RX2 yX2_remember yX2_remember ∈ wB := wIn 695 (by decide +kernel) rfl
theorem wCO_X2_remember : Cond.code yX2_remember cX2_remember 1 none ∈ wB := wIn 696 (by decide +kernel) rfl
theorem wML_X4_273 : Cond.methodLink RX4 273 yX4_areAllDown ∈ wB := wIn 697 (by decide +kernel) rfl
theorem wPM_X4_areAllDown : Cond.privateMethod yX4_areAllDown ∈ lw_tbl := List.mem_of_getElem? (i := 698) (by decide +kernel)
theorem wIM_X4_areAllDown : Cond.instanceMethod yX4_areAllDown ∈ wB := wIn 699 (by decide +kernel) rfl
theorem wCO_X4_areAllDown : Cond.code yX4_areAllDown cX4_areAllDown 5 (some .boolean) ∈ wB := wIn 700 (by decide +kernel) rfl
theorem wML_X4_277 : Cond.methodLink RX4 277 yX4_recallAll ∈ wB := wIn 701 (by decide +kernel) rfl
theorem wPM_X4_recallAll : Cond.privateMethod yX4_recallAll ∈ lw_tbl := List.mem_of_getElem? (i := 702) (by decide +kernel)
theorem wIM_X4_recallAll : Cond.instanceMethod yX4_recallAll ∈ wB := wIn 703 (by decide +kernel) rfl
theorem wCO_X4_recallAll : Cond.code yX4_recallAll cX4_recallAll 5 none ∈ wB := wIn 704 (by decide +kernel) rfl
theorem wML_X4_353 : Cond.methodLink RX4 353 yX3_recall ∈ wB := wIn 705 (by decide +kernel) rfl
theorem wIM_X3_recall : Cond.instanceMethod yX3_recall ∈ wB := wIn 706 (by decide +kernel) rfl
theorem wSE_X3_X3_recall : Cond.selects RX3 yX3_recall yX3_recall ∈ wB := wIn 707 (by decide +kernel) rfl
theorem wCO_X3_recall : Cond.code yX3_recall cX3_recall 1 none ∈ wB := wIn 708 (by decide +kernel) rfl
theorem wML_X4_356 : Cond.methodLink RX4 356 yX0_recall ∈ wB := wIn 709 (by decide +kernel) rfl
theorem wIM_X0_recall : Cond.instanceMethod yX0_recall ∈ wB := wIn 710 (by decide +kernel) rfl
theorem wSE_X0_X0_recall : Cond.selects RX0 yX0_recall yX0_recall ∈ wB := wIn 711 (by decide +kernel) rfl
theorem wCO_X0_recall : Cond.code yX0_recall cX0_recall 1 none ∈ wB := wIn 712 (by decide +kernel) rfl
theorem wML_X4_357 : Cond.methodLink RX4 357 yX2_recall ∈ wB := wIn 713 (by decide +kernel) rfl
theorem wIM_X2_recall : Cond.instanceMethod yX2_recall ∈ wB := wIn 714 (by decide +kernel) rfl
theorem wSE_X2_X2_recall : Cond.selects RX2 yX2_recall yX2_recall ∈ wB := wIn 715 (by decide +kernel) rfl
theorem wCO_X2_recall : Cond.code yX2_recall cX2_recall 1 none ∈ wB := wIn 716 (by decide +kernel) rfl
theorem wCL_L_74 : Cond.classLink RL 74 RX5 ∈ wB := wIn 717 (by decide +kernel) rfl
theorem wIS_X5 : Cond.instantiable RX5 16 ∈ wB := wIn 718 (by decide +kernel) rfl
theorem wML_L_76 : Cond.methodLink RL 76 yX5_init ∈ wB := wIn 719 (by decide +kernel) rfl
theorem wIM_X5_init : Cond.instanceMethod yX5_init ∈ wB := wIn 720 (by decide +kernel) rfl
theorem wCO_X5_init : Cond.code yX5_init cX5_init 1 none ∈ wB := wIn 721 (by decide +kernel) rfl
theorem wML_X5_1 : Cond.methodLink RX5 1 objectInit ∈ wB := wIn 722 (by decide +kernel) rfl
theorem wFL_X5_38 : Cond.fieldLink RX5 38 RX5 "thrown" "I" ∈ wB := wIn 723 (by decide +kernel) rfl
theorem wFL_X5_122 : Cond.fieldLink RX5 122 RX5 "tick" "I" ∈ wB := wIn 724 (by decide +kernel) rfl
theorem wFL_X5_42 : Cond.fieldLink RX5 42 RX5 "springs" "I" ∈ wB := wIn 725 (by decide +kernel) rfl
theorem wFL_X5_49 : Cond.fieldLink RX5 49 RX5 "birds" "I" ∈ wB := wIn 726 (by decide +kernel) rfl
theorem wFL_X5_9 : Cond.fieldLink RX5 9 RX5 "springTable" "[I" ∈ wB := wIn 727 (by decide +kernel) rfl
theorem wFL_X5_13 : Cond.fieldLink RX5 13 RX5 "birdTable" "[I" ∈ wB := wIn 728 (by decide +kernel) rfl
theorem wFL_X5_16 : Cond.fieldLink RX5 16 RX5 "coupled" "[Z" ∈ wB := wIn 729 (by decide +kernel) rfl
theorem wFL_X5_20 : Cond.fieldLink RX5 20 RX5 "pins" "[I" ∈ wB := wIn 730 (by decide +kernel) rfl
theorem wFL_X5_23 : Cond.fieldLink RX5 23 RX5 "notes" "[I" ∈ wB := wIn 731 (by decide +kernel) rfl
theorem wFL_X5_26 : Cond.fieldLink RX5 26 RX5 "cams" "[I" ∈ wB := wIn 732 (by decide +kernel) rfl
theorem wFL_X5_116 : Cond.fieldLink RX5 116 RX5 "sounded" "I" ∈ wB := wIn 733 (by decide +kernel) rfl
theorem wFL_X5_119 : Cond.fieldLink RX5 119 RX5 "kept" "I" ∈ wB := wIn 734 (by decide +kernel) rfl
theorem wFL_X5_29 : Cond.fieldLink RX5 29 RX5 "songs" "[I" ∈ wB := wIn 735 (by decide +kernel) rfl
theorem wFL_X5_112 : Cond.fieldLink RX5 112 RX5 "isAhead" "Z" ∈ wB := wIn 736 (by decide +kernel) rfl
theorem wFL_X5_32 : Cond.fieldLink RX5 32 RX5 "spareSprings" "[I" ∈ wB := wIn 737 (by decide +kernel) rfl
theorem wFL_X5_35 : Cond.fieldLink RX5 35 RX5 "spareBirds" "[I" ∈ wB := wIn 738 (by decide +kernel) rfl
theorem warrayClass__boolean : Cond.arrayClass .boolean ∈ wB := wIn 772 (by decide +kernel) rfl
theorem wML_L_83 : Cond.methodLink RL 83 yX5_thrown ∈ wB := wIn 773 (by decide +kernel) rfl
theorem wIM_X5_thrown : Cond.instanceMethod yX5_thrown ∈ wB := wIn 774 (by decide +kernel) rfl
theorem wSE_X5_X5_thrown : Cond.selects RX5 yX5_thrown yX5_thrown ∈ wB := wIn 775 (by decide +kernel) rfl
theorem wCO_X5_thrown : Cond.code yX5_thrown cX5_thrown 1 (some .int) ∈ wB := wIn 776 (by decide +kernel) rfl
theorem wML_L_82 : Cond.methodLink RL 82 yX5_addSpring ∈ wB := wIn 777 (by decide +kernel) rfl
theorem wIM_X5_addSpring : Cond.instanceMethod yX5_addSpring ∈ wB := wIn 778 (by decide +kernel) rfl
theorem wSE_X5_X5_addSpring : Cond.selects RX5 yX5_addSpring yX5_addSpring ∈ wB := wIn 779 (by decide +kernel) rfl
theorem wCO_X5_addSpring : Cond.code yX5_addSpring cX5_addSpring 2 (some .int) ∈ wB := wIn 780 (by decide +kernel) rfl
theorem wML_X5_45 : Cond.methodLink RX5 45 yX5_isIn ∈ wB := wIn 781 (by decide +kernel) rfl
theorem wST_X5_isIn : Cond.static yX5_isIn ∈ wB := wIn 782 (by decide +kernel) rfl
theorem wCO_X5_isIn : Cond.code yX5_isIn cX5_isIn 3 (some .boolean) ∈ wB := wIn 783 (by decide +kernel) rfl
theorem wML_X5_52 : Cond.methodLink RX5 52 yX5_fail ∈ wB := wIn 784 (by decide +kernel) rfl
theorem wPM_X5_fail : Cond.privateMethod yX5_fail ∈ lw_tbl := List.mem_of_getElem? (i := 785) (by decide +kernel)
theorem wIM_X5_fail : Cond.instanceMethod yX5_fail ∈ wB := wIn 786 (by decide +kernel) rfl
theorem wCO_X5_fail : Cond.code yX5_fail cX5_fail 2 (some .int) ∈ wB := wIn 787 (by decide +kernel) rfl
theorem wML_L_90 : Cond.methodLink RL 90 yX5_wind ∈ wB := wIn 788 (by decide +kernel) rfl
theorem wIM_X5_wind : Cond.instanceMethod yX5_wind ∈ wB := wIn 789 (by decide +kernel) rfl
theorem wSE_X5_X5_wind : Cond.selects RX5 yX5_wind yX5_wind ∈ wB := wIn 790 (by decide +kernel) rfl
theorem wCO_X5_wind : Cond.code yX5_wind cX5_wind 4 (some .int) ∈ wB := wIn 791 (by decide +kernel) rfl
theorem wML_X5_56 : Cond.methodLink RX5 56 yX5_isSpring ∈ wB := wIn 792 (by decide +kernel) rfl
theorem wPM_X5_isSpring : Cond.privateMethod yX5_isSpring ∈ lw_tbl := List.mem_of_getElem? (i := 793) (by decide +kernel)
theorem wIM_X5_isSpring : Cond.instanceMethod yX5_isSpring ∈ wB := wIn 794 (by decide +kernel) rfl
theorem wCO_X5_isSpring : Cond.code yX5_isSpring cX5_isSpring 2 (some .boolean) ∈ wB := wIn 795 (by decide +kernel) rfl
theorem wconstant_X5_60 : Cond.constant RX5 60 200000 ∈ wB := wIn 796 (by decide +kernel) rfl
theorem wML_X5_61 : Cond.methodLink RX5 61 Lib.Math.min.name ∈ wB := wIn 797 (by decide +kernel) rfl
theorem wML_L_94 : Cond.methodLink RL 94 yX5_brake ∈ wB := wIn 798 (by decide +kernel) rfl
theorem wIM_X5_brake : Cond.instanceMethod yX5_brake ∈ wB := wIn 799 (by decide +kernel) rfl
theorem wSE_X5_X5_brake : Cond.selects RX5 yX5_brake yX5_brake ∈ wB := wIn 800 (by decide +kernel) rfl
theorem wCO_X5_brake : Cond.code yX5_brake cX5_brake 4 (some .boolean) ∈ wB := wIn 801 (by decide +kernel) rfl
theorem wML_X5_67 : Cond.methodLink RX5 67 yX5_sp ∈ wB := wIn 802 (by decide +kernel) rfl
theorem wPM_X5_sp : Cond.privateMethod yX5_sp ∈ lw_tbl := List.mem_of_getElem? (i := 803) (by decide +kernel)
theorem wIM_X5_sp : Cond.instanceMethod yX5_sp ∈ wB := wIn 804 (by decide +kernel) rfl
theorem wCO_X5_sp : Cond.code yX5_sp cX5_sp 3 (some .int) ∈ wB := wIn 805 (by decide +kernel) rfl
theorem wML_L_98 : Cond.methodLink RL 98 yX5_couple ∈ wB := wIn 806 (by decide +kernel) rfl
theorem wIM_X5_couple : Cond.instanceMethod yX5_couple ∈ wB := wIn 807 (by decide +kernel) rfl
theorem wSE_X5_X5_couple : Cond.selects RX5 yX5_couple yX5_couple ∈ wB := wIn 808 (by decide +kernel) rfl
theorem wCO_X5_couple : Cond.code yX5_couple cX5_couple 4 (some .int) ∈ wB := wIn 809 (by decide +kernel) rfl
theorem wML_X5_70 : Cond.methodLink RX5 70 Lib.Math.max.name ∈ wB := wIn 810 (by decide +kernel) rfl
theorem wML_X5_73 : Cond.methodLink RX5 73 yX5_pairs ∈ wB := wIn 811 (by decide +kernel) rfl
theorem wPM_X5_pairs : Cond.privateMethod yX5_pairs ∈ lw_tbl := List.mem_of_getElem? (i := 812) (by decide +kernel)
theorem wIM_X5_pairs : Cond.instanceMethod yX5_pairs ∈ wB := wIn 813 (by decide +kernel) rfl
theorem wCO_X5_pairs : Cond.code yX5_pairs cX5_pairs 3 (some .int) ∈ wB := wIn 814 (by decide +kernel) rfl
theorem wML_L_101 : Cond.methodLink RL 101 yX5_spring ∈ wB := wIn 815 (by decide +kernel) rfl
theorem wIM_X5_spring : Cond.instanceMethod yX5_spring ∈ wB := wIn 816 (by decide +kernel) rfl
theorem wSE_X5_X5_spring : Cond.selects RX5 yX5_spring yX5_spring ∈ wB := wIn 817 (by decide +kernel) rfl
theorem wCO_X5_spring : Cond.code yX5_spring cX5_spring 3 (some .int) ∈ wB := wIn 818 (by decide +kernel) rfl
theorem wML_X5_87 : Cond.methodLink RX5 87 yX5_springTold ∈ wB := wIn 819 (by decide +kernel) rfl
theorem wPM_X5_springTold : Cond.privateMethod yX5_springTold ∈ lw_tbl := List.mem_of_getElem? (i := 820) (by decide +kernel)
theorem wIM_X5_springTold : Cond.instanceMethod yX5_springTold ∈ wB := wIn 821 (by decide +kernel) rfl
theorem wCO_X5_springTold : Cond.code yX5_springTold cX5_springTold 5 (some .int) ∈ wB := wIn 822 (by decide +kernel) rfl
theorem wML_X5_84 : Cond.methodLink RX5 84 yX5_load ∈ wB := wIn 823 (by decide +kernel) rfl
theorem wPM_X5_load : Cond.privateMethod yX5_load ∈ lw_tbl := List.mem_of_getElem? (i := 824) (by decide +kernel)
theorem wIM_X5_load : Cond.instanceMethod yX5_load ∈ wB := wIn 825 (by decide +kernel) rfl
theorem wCO_X5_load : Cond.code yX5_load cX5_load 6 (some .int) ∈ wB := wIn 826 (by decide +kernel) rfl
theorem wML_X5_77 : Cond.methodLink RX5 77 yX5_get ∈ wB := wIn 827 (by decide +kernel) rfl
theorem wPM_X5_get : Cond.privateMethod yX5_get ∈ lw_tbl := List.mem_of_getElem? (i := 828) (by decide +kernel)
theorem wIM_X5_get : Cond.instanceMethod yX5_get ∈ wB := wIn 829 (by decide +kernel) rfl
theorem wCO_X5_get : Cond.code yX5_get cX5_get 3 (some .int) ∈ wB := wIn 830 (by decide +kernel) rfl
theorem wML_X5_80 : Cond.methodLink RX5 80 yX5_liftAt ∈ wB := wIn 831 (by decide +kernel) rfl
theorem wPM_X5_liftAt : Cond.privateMethod yX5_liftAt ∈ lw_tbl := List.mem_of_getElem? (i := 832) (by decide +kernel)
theorem wIM_X5_liftAt : Cond.instanceMethod yX5_liftAt ∈ wB := wIn 833 (by decide +kernel) rfl
theorem wCO_X5_liftAt : Cond.code yX5_liftAt cX5_liftAt 10 (some .int) ∈ wB := wIn 834 (by decide +kernel) rfl
theorem wML_X5_103 : Cond.methodLink RX5 103 yX5_cam ∈ wB := wIn 835 (by decide +kernel) rfl
theorem wST_X5_cam : Cond.static yX5_cam ∈ wB := wIn 836 (by decide +kernel) rfl
theorem wCO_X5_cam : Cond.code yX5_cam cX5_cam 2 (some .int) ∈ wB := wIn 837 (by decide +kernel) rfl
theorem wML_X5_109 : Cond.methodLink RX5 109 yJ9_floorDiv_7cf53 ∈ wB := wIn 838 (by decide +kernel) rfl
theorem wML_L_105 : Cond.methodLink RL 105 yX5_addBird ∈ wB := wIn 839 (by decide +kernel) rfl
theorem wIM_X5_addBird : Cond.instanceMethod yX5_addBird ∈ wB := wIn 840 (by decide +kernel) rfl
theorem wSE_X5_X5_addBird : Cond.selects RX5 yX5_addBird yX5_addBird ∈ wB := wIn 841 (by decide +kernel) rfl
theorem wCO_X5_addBird : Cond.code yX5_addBird cX5_addBird 8 (some .int) ∈ wB := wIn 842 (by decide +kernel) rfl
theorem wML_X5_90 : Cond.methodLink RX5 90 arraycopyName ∈ wB := wIn 843 (by decide +kernel) rfl
theorem wST_java_lang_System_arraycopy__Ljava_lang_Object_ILjava_lang_Object_II_V : Cond.static arraycopyName ∈ wB := wIn 844 (by decide +kernel) rfl
theorem wNA_java_lang_System_arraycopy__Ljava_lang_Object_ILjava_lang_Object_II_V : Cond.native arraycopyName ∈ lw_tbl := List.mem_of_getElem? (i := 845) (by decide +kernel)
theorem wML_L_108 : Cond.methodLink RL 108 yX5_engage ∈ wB := wIn 846 (by decide +kernel) rfl
theorem wIM_X5_engage : Cond.instanceMethod yX5_engage ∈ wB := wIn 847 (by decide +kernel) rfl
theorem wSE_X5_X5_engage : Cond.selects RX5 yX5_engage yX5_engage ∈ wB := wIn 848 (by decide +kernel) rfl
theorem wCO_X5_engage : Cond.code yX5_engage cX5_engage 4 (some .boolean) ∈ wB := wIn 849 (by decide +kernel) rfl
theorem wML_X5_96 : Cond.methodLink RX5 96 yX5_isBird ∈ wB := wIn 850 (by decide +kernel) rfl
theorem wPM_X5_isBird : Cond.privateMethod yX5_isBird ∈ lw_tbl := List.mem_of_getElem? (i := 851) (by decide +kernel)
theorem wIM_X5_isBird : Cond.instanceMethod yX5_isBird ∈ wB := wIn 852 (by decide +kernel) rfl
theorem wCO_X5_isBird : Cond.code yX5_isBird cX5_isBird 2 (some .boolean) ∈ wB := wIn 853 (by decide +kernel) rfl
theorem wML_X5_99 : Cond.methodLink RX5 99 yX5_set ∈ wB := wIn 854 (by decide +kernel) rfl
theorem wPM_X5_set : Cond.privateMethod yX5_set ∈ lw_tbl := List.mem_of_getElem? (i := 855) (by decide +kernel)
theorem wIM_X5_set : Cond.instanceMethod yX5_set ∈ wB := wIn 856 (by decide +kernel) rfl
theorem wCO_X5_set : Cond.code yX5_set cX5_set 4 none ∈ wB := wIn 857 (by decide +kernel) rfl
theorem wML_L_112 : Cond.methodLink RL 112 yX5_pin ∈ wB := wIn 858 (by decide +kernel) rfl
theorem wIM_X5_pin : Cond.instanceMethod yX5_pin ∈ wB := wIn 859 (by decide +kernel) rfl
theorem wSE_X5_X5_pin : Cond.selects RX5 yX5_pin yX5_pin ∈ wB := wIn 860 (by decide +kernel) rfl
theorem wCO_X5_pin : Cond.code yX5_pin cX5_pin 6 (some .int) ∈ wB := wIn 861 (by decide +kernel) rfl
theorem wML_L_115 : Cond.methodLink RL 115 yX5_tune ∈ wB := wIn 862 (by decide +kernel) rfl
theorem wIM_X5_tune : Cond.instanceMethod yX5_tune ∈ wB := wIn 863 (by decide +kernel) rfl
theorem wSE_X5_X5_tune : Cond.selects RX5 yX5_tune yX5_tune ∈ wB := wIn 864 (by decide +kernel) rfl
theorem wCO_X5_tune : Cond.code yX5_tune cX5_tune 5 (some .int) ∈ wB := wIn 865 (by decide +kernel) rfl
theorem wML_L_119 : Cond.methodLink RL 119 yX5_point ∈ wB := wIn 866 (by decide +kernel) rfl
theorem wIM_X5_point : Cond.instanceMethod yX5_point ∈ wB := wIn 867 (by decide +kernel) rfl
theorem wSE_X5_X5_point : Cond.selects RX5 yX5_point yX5_point ∈ wB := wIn 868 (by decide +kernel) rfl
theorem wCO_X5_point : Cond.code yX5_point cX5_point 6 (some .int) ∈ wB := wIn 869 (by decide +kernel) rfl
theorem wML_X5_106 : Cond.methodLink RX5 106 yX5_pointsOf ∈ wB := wIn 870 (by decide +kernel) rfl
theorem wPM_X5_pointsOf : Cond.privateMethod yX5_pointsOf ∈ lw_tbl := List.mem_of_getElem? (i := 871) (by decide +kernel)
theorem wIM_X5_pointsOf : Cond.instanceMethod yX5_pointsOf ∈ wB := wIn 872 (by decide +kernel) rfl
theorem wCO_X5_pointsOf : Cond.code yX5_pointsOf cX5_pointsOf 5 (some .int) ∈ wB := wIn 873 (by decide +kernel) rfl
theorem wML_L_122 : Cond.methodLink RL 122 yX5_bird ∈ wB := wIn 874 (by decide +kernel) rfl
theorem wIM_X5_bird : Cond.instanceMethod yX5_bird ∈ wB := wIn 875 (by decide +kernel) rfl
theorem wSE_X5_X5_bird : Cond.selects RX5 yX5_bird yX5_bird ∈ wB := wIn 876 (by decide +kernel) rfl
theorem wCO_X5_bird : Cond.code yX5_bird cX5_bird 3 (some .int) ∈ wB := wIn 877 (by decide +kernel) rfl
theorem wML_L_125 : Cond.methodLink RL 125 yX5_lift ∈ wB := wIn 878 (by decide +kernel) rfl
theorem wIM_X5_lift : Cond.instanceMethod yX5_lift ∈ wB := wIn 879 (by decide +kernel) rfl
theorem wSE_X5_X5_lift : Cond.selects RX5 yX5_lift yX5_lift ∈ wB := wIn 880 (by decide +kernel) rfl
theorem wCO_X5_lift : Cond.code yX5_lift cX5_lift 4 (some .int) ∈ wB := wIn 881 (by decide +kernel) rfl
theorem wML_L_128 : Cond.methodLink RL 128 yX5_run ∈ wB := wIn 882 (by decide +kernel) rfl
theorem wIM_X5_run : Cond.instanceMethod yX5_run ∈ wB := wIn 883 (by decide +kernel) rfl
theorem wSE_X5_X5_run : Cond.selects RX5 yX5_run yX5_run ∈ wB := wIn 884 (by decide +kernel) rfl
theorem wCO_X5_run : Cond.code yX5_run cX5_run 4 (some .int) ∈ wB := wIn 885 (by decide +kernel) rfl
theorem wML_X5_135 : Cond.methodLink RX5 135 yX5_oneTick ∈ wB := wIn 886 (by decide +kernel) rfl
theorem wPM_X5_oneTick : Cond.privateMethod yX5_oneTick ∈ lw_tbl := List.mem_of_getElem? (i := 887) (by decide +kernel)
theorem wIM_X5_oneTick : Cond.instanceMethod yX5_oneTick ∈ wB := wIn 888 (by decide +kernel) rfl
theorem wCO_X5_oneTick : Cond.code yX5_oneTick cX5_oneTick 5 none ∈ wB := wIn 889 (by decide +kernel) rfl
theorem wML_X5_131 : Cond.methodLink RX5 131 yX5_turn ∈ wB := wIn 890 (by decide +kernel) rfl
theorem wPM_X5_turn : Cond.privateMethod yX5_turn ∈ lw_tbl := List.mem_of_getElem? (i := 891) (by decide +kernel)
theorem wIM_X5_turn : Cond.instanceMethod yX5_turn ∈ wB := wIn 892 (by decide +kernel) rfl
theorem wCO_X5_turn : Cond.code yX5_turn cX5_turn 9 none ∈ wB := wIn 893 (by decide +kernel) rfl
theorem wconstantLong_X5_125 : Cond.constantLong RX5 125 1000 ∈ wB := wIn 894 (by decide +kernel) rfl
theorem wML_X5_127 : Cond.methodLink RX5 127 yX5_note ∈ wB := wIn 895 (by decide +kernel) rfl
theorem wPM_X5_note : Cond.privateMethod yX5_note ∈ lw_tbl := List.mem_of_getElem? (i := 896) (by decide +kernel)
theorem wIM_X5_note : Cond.instanceMethod yX5_note ∈ wB := wIn 897 (by decide +kernel) rfl
theorem wCO_X5_note : Cond.code yX5_note cX5_note 5 none ∈ wB := wIn 898 (by decide +kernel) rfl
theorem wML_L_131 : Cond.methodLink RL 131 yX5_count ∈ wB := wIn 899 (by decide +kernel) rfl
theorem wIM_X5_count : Cond.instanceMethod yX5_count ∈ wB := wIn 900 (by decide +kernel) rfl
theorem wSE_X5_X5_count : Cond.selects RX5 yX5_count yX5_count ∈ wB := wIn 901 (by decide +kernel) rfl
theorem wCO_X5_count : Cond.code yX5_count cX5_count 2 (some .int) ∈ wB := wIn 902 (by decide +kernel) rfl
theorem wML_X5_141 : Cond.methodLink RX5 141 yX5_counted ∈ wB := wIn 903 (by decide +kernel) rfl
theorem wPM_X5_counted : Cond.privateMethod yX5_counted ∈ lw_tbl := List.mem_of_getElem? (i := 904) (by decide +kernel)
theorem wIM_X5_counted : Cond.instanceMethod yX5_counted ∈ wB := wIn 905 (by decide +kernel) rfl
theorem wCO_X5_counted : Cond.code yX5_counted cX5_counted 2 (some .int) ∈ wB := wIn 906 (by decide +kernel) rfl
theorem wML_X5_138 : Cond.methodLink RX5 138 yX5_heldByAll ∈ wB := wIn 907 (by decide +kernel) rfl
theorem wPM_X5_heldByAll : Cond.privateMethod yX5_heldByAll ∈ lw_tbl := List.mem_of_getElem? (i := 908) (by decide +kernel)
theorem wIM_X5_heldByAll : Cond.instanceMethod yX5_heldByAll ∈ wB := wIn 909 (by decide +kernel) rfl
theorem wCO_X5_heldByAll : Cond.code yX5_heldByAll cX5_heldByAll 3 (some .int) ∈ wB := wIn 910 (by decide +kernel) rfl
theorem wML_L_134 : Cond.methodLink RL 134 yX5_sung ∈ wB := wIn 911 (by decide +kernel) rfl
theorem wIM_X5_sung : Cond.instanceMethod yX5_sung ∈ wB := wIn 912 (by decide +kernel) rfl
theorem wSE_X5_X5_sung : Cond.selects RX5 yX5_sung yX5_sung ∈ wB := wIn 913 (by decide +kernel) rfl
theorem wCO_X5_sung : Cond.code yX5_sung cX5_sung 3 (some .int) ∈ wB := wIn 914 (by decide +kernel) rfl
theorem wML_L_137 : Cond.methodLink RL 137 yX5_chord ∈ wB := wIn 915 (by decide +kernel) rfl
theorem wIM_X5_chord : Cond.instanceMethod yX5_chord ∈ wB := wIn 916 (by decide +kernel) rfl
theorem wSE_X5_X5_chord : Cond.selects RX5 yX5_chord yX5_chord ∈ wB := wIn 917 (by decide +kernel) rfl
theorem wCO_X5_chord : Cond.code yX5_chord cX5_chord 6 (some .int) ∈ wB := wIn 918 (by decide +kernel) rfl
theorem wML_L_141 : Cond.methodLink RL 141 yX5_longest ∈ wB := wIn 919 (by decide +kernel) rfl
theorem wIM_X5_longest : Cond.instanceMethod yX5_longest ∈ wB := wIn 920 (by decide +kernel) rfl
theorem wSE_X5_X5_longest : Cond.selects RX5 yX5_longest yX5_longest ∈ wB := wIn 921 (by decide +kernel) rfl
theorem wCO_X5_longest : Cond.code yX5_longest cX5_longest 4 (some .int) ∈ wB := wIn 922 (by decide +kernel) rfl
theorem wML_L_145 : Cond.methodLink RL 145 yX5_emptySongs ∈ wB := wIn 923 (by decide +kernel) rfl
theorem wIM_X5_emptySongs : Cond.instanceMethod yX5_emptySongs ∈ wB := wIn 924 (by decide +kernel) rfl
theorem wSE_X5_X5_emptySongs : Cond.selects RX5 yX5_emptySongs yX5_emptySongs ∈ wB := wIn 925 (by decide +kernel) rfl
theorem wCO_X5_emptySongs : Cond.code yX5_emptySongs cX5_emptySongs 2 (some .int) ∈ wB := wIn 926 (by decide +kernel) rfl
theorem wML_L_148 : Cond.methodLink RL 148 yX5_runsDown ∈ wB := wIn 927 (by decide +kernel) rfl
theorem wIM_X5_runsDown : Cond.instanceMethod yX5_runsDown ∈ wB := wIn 928 (by decide +kernel) rfl
theorem wSE_X5_X5_runsDown : Cond.selects RX5 yX5_runsDown yX5_runsDown ∈ wB := wIn 929 (by decide +kernel) rfl
theorem wCO_X5_runsDown : Cond.code yX5_runsDown cX5_runsDown 4 (some .int) ∈ wB := wIn 930 (by decide +kernel) rfl
theorem wML_X5_144 : Cond.methodLink RX5 144 yX5_isDown ∈ wB := wIn 931 (by decide +kernel) rfl
theorem wPM_X5_isDown : Cond.privateMethod yX5_isDown ∈ lw_tbl := List.mem_of_getElem? (i := 932) (by decide +kernel)
theorem wIM_X5_isDown : Cond.instanceMethod yX5_isDown ∈ wB := wIn 933 (by decide +kernel) rfl
theorem wCO_X5_isDown : Cond.code yX5_isDown cX5_isDown 2 (some .boolean) ∈ wB := wIn 934 (by decide +kernel) rfl
theorem wML_L_153 : Cond.methodLink RL 153 yX5_tension ∈ wB := wIn 935 (by decide +kernel) rfl
theorem wIM_X5_tension : Cond.instanceMethod yX5_tension ∈ wB := wIn 936 (by decide +kernel) rfl
theorem wSE_X5_X5_tension : Cond.selects RX5 yX5_tension yX5_tension ∈ wB := wIn 937 (by decide +kernel) rfl
theorem wCO_X5_tension : Cond.code yX5_tension cX5_tension 1 (some .double) ∈ wB := wIn 938 (by decide +kernel) rfl
theorem wML_L_158 : Cond.methodLink RL 158 yX5_digest ∈ wB := wIn 939 (by decide +kernel) rfl
theorem wIM_X5_digest : Cond.instanceMethod yX5_digest ∈ wB := wIn 940 (by decide +kernel) rfl
theorem wSE_X5_X5_digest : Cond.selects RX5 yX5_digest yX5_digest ∈ wB := wIn 941 (by decide +kernel) rfl
theorem wCO_X5_digest : Cond.code yX5_digest cX5_digest 5 (some .long) ∈ wB := wIn 942 (by decide +kernel) rfl
theorem wconstantLong_X5_148 : Cond.constantLong RX5 148 449 ∈ wB := wIn 943 (by decide +kernel) rfl
theorem wconstantLong_X5_150 : Cond.constantLong RX5 150 31 ∈ wB := wIn 944 (by decide +kernel) rfl
theorem warrayClass__long : Cond.arrayClass .long ∈ wB := wIn 945 (by decide +kernel) rfl
theorem inX0_B : ∀ w ∈ wsX00, w ∈ wB := by
  intro w hw
  obtain ⟨k, hk, rfl⟩ := List.mem_map.mp hw
  have hk := List.mem_range.mp hk
  match k, hk with
  | 0, _ => exact wIn 472 (by decide +kernel) rfl
  | 1, _ => exact wIn 474 (by decide +kernel) rfl
  | 2, _ => exact wIn 476 (by decide +kernel) rfl
  | 3, _ => exact wIn 478 (by decide +kernel) rfl
  | 4, _ => exact wIn 480 (by decide +kernel) rfl
  | 5, _ => exact wIn 482 (by decide +kernel) rfl
  | 6, _ => exact wIn 484 (by decide +kernel) rfl
  | 7, _ => exact wIn 486 (by decide +kernel) rfl
  | 8, _ => exact wIn 488 (by decide +kernel) rfl
  | 9, _ => exact wIn 490 (by decide +kernel) rfl
  | 10, _ => exact wIn 492 (by decide +kernel) rfl
  | 11, _ => exact wIn 494 (by decide +kernel) rfl
  | 12, _ => exact wIn 496 (by decide +kernel) rfl
  | 13, _ => exact wIn 498 (by decide +kernel) rfl
  | 14, _ => exact wIn 500 (by decide +kernel) rfl
  | k + 15, hk => exact absurd hk (by omega)
theorem inX1_B : ∀ w ∈ wsX10, w ∈ wB := by
  intro w hw
  obtain ⟨k, hk, rfl⟩ := List.mem_map.mp hw
  have hk := List.mem_range.mp hk
  match k, hk with
  | 0, _ => exact wIn 439 (by decide +kernel) rfl
  | 1, _ => exact wIn 441 (by decide +kernel) rfl
  | 2, _ => exact wIn 443 (by decide +kernel) rfl
  | k + 3, hk => exact absurd hk (by omega)
theorem inX2_B : ∀ w ∈ wsX20, w ∈ wB := by
  intro w hw
  obtain ⟨k, hk, rfl⟩ := List.mem_map.mp hw
  have hk := List.mem_range.mp hk
  match k, hk with
  | 0, _ => exact wIn 74 (by decide +kernel) rfl
  | 1, _ => exact wIn 76 (by decide +kernel) rfl
  | 2, _ => exact wIn 78 (by decide +kernel) rfl
  | 3, _ => exact wIn 80 (by decide +kernel) rfl
  | 4, _ => exact wIn 82 (by decide +kernel) rfl
  | k + 5, hk => exact absurd hk (by omega)
theorem inX3_B : ∀ w ∈ wsX30, w ∈ wB := by
  intro w hw
  obtain ⟨k, hk, rfl⟩ := List.mem_map.mp hw
  have hk := List.mem_range.mp hk
  match k, hk with
  | 0, _ => exact wIn 358 (by decide +kernel) rfl
  | 1, _ => exact wIn 360 (by decide +kernel) rfl
  | 2, _ => exact wIn 362 (by decide +kernel) rfl
  | 3, _ => exact wIn 364 (by decide +kernel) rfl
  | 4, _ => exact wIn 366 (by decide +kernel) rfl
  | 5, _ => exact wIn 368 (by decide +kernel) rfl
  | 6, _ => exact wIn 370 (by decide +kernel) rfl
  | 7, _ => exact wIn 372 (by decide +kernel) rfl
  | k + 8, hk => exact absurd hk (by omega)
theorem inX4_B : ∀ w ∈ wsX40, w ∈ wB := by
  intro w hw
  obtain ⟨k, hk, rfl⟩ := List.mem_map.mp hw
  have hk := List.mem_range.mp hk
  match k, hk with
  | 0, _ => exact wIn 93 (by decide +kernel) rfl
  | 1, _ => exact wIn 95 (by decide +kernel) rfl
  | 2, _ => exact wIn 97 (by decide +kernel) rfl
  | 3, _ => exact wIn 99 (by decide +kernel) rfl
  | 4, _ => exact wIn 101 (by decide +kernel) rfl
  | 5, _ => exact wIn 103 (by decide +kernel) rfl
  | 6, _ => exact wIn 105 (by decide +kernel) rfl
  | k + 7, hk => exact absurd hk (by omega)
theorem inX5_B : ∀ w ∈ wsX50, w ∈ wB := by
  intro w hw
  obtain ⟨k, hk, rfl⟩ := List.mem_map.mp hw
  have hk := List.mem_range.mp hk
  match k, hk with
  | 0, _ => exact wIn 739 (by decide +kernel) rfl
  | 1, _ => exact wIn 741 (by decide +kernel) rfl
  | 2, _ => exact wIn 743 (by decide +kernel) rfl
  | 3, _ => exact wIn 745 (by decide +kernel) rfl
  | 4, _ => exact wIn 747 (by decide +kernel) rfl
  | 5, _ => exact wIn 749 (by decide +kernel) rfl
  | 6, _ => exact wIn 751 (by decide +kernel) rfl
  | 7, _ => exact wIn 753 (by decide +kernel) rfl
  | 8, _ => exact wIn 755 (by decide +kernel) rfl
  | 9, _ => exact wIn 757 (by decide +kernel) rfl
  | 10, _ => exact wIn 759 (by decide +kernel) rfl
  | 11, _ => exact wIn 761 (by decide +kernel) rfl
  | 12, _ => exact wIn 763 (by decide +kernel) rfl
  | 13, _ => exact wIn 765 (by decide +kernel) rfl
  | 14, _ => exact wIn 767 (by decide +kernel) rfl
  | 15, _ => exact wIn 769 (by decide +kernel) rfl
  | k + 16, hk => exact absurd hk (by omega)
/-- a method's words: its own code, and all -/
noncomputable def ws_ (y : MethodName) (cc : ByteArray) (n : Nat) (r : Option FieldType) : List Cond := Cond.code y cc n r :: wB
noncomputable def wsW (y : MethodName) (cc : ByteArray) (n : Nat) (r : Option FieldType) (hh : List (Nat × Nat × Nat × Nat)) : List Cond := Cond.codeWith y cc n r hh :: wB
theorem ws_good {y : MethodName} {cc : ByteArray} {n : Nat} {r : Option FieldType} (h : Cond.code y cc n r ∈ wB) : GoodIn wB (ws_ y cc n r) := fun w hw => by
  rcases List.mem_cons.mp hw with rfl | h1
  · exact wB_good _ h
  · exact wB_good _ h1
theorem wsW_good {y : MethodName} {cc : ByteArray} {n : Nat} {r : Option FieldType} {hh : List (Nat × Nat × Nat × Nat)} (h : Cond.codeWith y cc n r hh ∈ wB) : GoodIn wB (wsW y cc n r hh) := fun w hw => by
  rcases List.mem_cons.mp hw with rfl | h1
  · exact wB_good _ h
  · exact wB_good _ h1
theorem gV {own C : String} {idx : Nat} {y : MethodName} {ws : List Cond} (hw : GoodIn wB ws) (h1 : Cond.methodLink own idx y ∈ wB) (h2 : Cond.instanceMethod y ∈ wB) (h3 : Cond.selects C y y ∈ wB) (h4 : Cond.initialized C ∈ wB) : GoodIn wB (wsV own idx C y ws) := fun w h => by
  rcases List.mem_append.mp h with h | h
  · simp only [List.mem_cons, List.not_mem_nil, or_false] at h
    rcases h with rfl | rfl | rfl | rfl
    · exact wB_good _ h1
    · exact wB_good _ h2
    · exact wB_good _ h3
    · exact wB_good _ h4
  · exact hw w h
theorem gS {own : String} {idx : Nat} {y : MethodName} {ws : List Cond} (hw : GoodIn wB ws) (h1 : Cond.methodLink own idx y ∈ wB) (h2 : Cond.static y ∈ wB) (h3 : Cond.initialized y.cls ∈ wB) : GoodIn wB (va_wsS own idx y ws) := fun w h => by
  rcases List.mem_append.mp h with h | h
  · simp only [List.mem_cons, List.not_mem_nil, or_false] at h
    rcases h with rfl | rfl | rfl
    · exact wB_good _ h1
    · exact wB_good _ h2
    · exact wB_good _ h3
  · exact hw w h
