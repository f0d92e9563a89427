/-! the words of the tables, each by its place -/
noncomputable def wB : List Cond := lw_tbl.filter goodWord
theorem wB_good : GoodIn wB wB := fun w h => ⟨h, good_of_word (List.mem_filter.mp h).2⟩
theorem wIn {w : Cond} (i : Nat) (h : lw_tbl[i]? = some w) (hg : goodWord w = true) : w ∈ wB := List.mem_filter.mpr ⟨List.mem_of_getElem? h, hg⟩
theorem wB_tbl : ∀ w ∈ wB, w ∈ lw_tbl := fun _ h => (List.mem_filter.mp h).1
theorem wSE_X4_X4_springAt : Cond.selects RX4 yX4_springAt yX4_springAt ∈ wB := wIn 0 (by decide +kernel) rfl
theorem wSE_X4_X4_birdsDrivenBy : Cond.selects RX4 yX4_birdsDrivenBy yX4_birdsDrivenBy ∈ wB := wIn 2 (by decide +kernel) rfl
theorem wSE_X4_X4_loadOn : Cond.selects RX4 yX4_loadOn yX4_loadOn ∈ wB := wIn 3 (by decide +kernel) rfl
theorem wSE_X4_X4_birdAt : Cond.selects RX4 yX4_birdAt yX4_birdAt ∈ wB := wIn 4 (by decide +kernel) rfl
theorem wSE_X4_X4_goOneTick : Cond.selects RX4 yX4_goOneTick yX4_goOneTick ∈ wB := wIn 5 (by decide +kernel) rfl
theorem wSE_X4_X4_shareBetweenCoupled : Cond.selects RX4 yX4_shareBetweenCoupled yX4_shareBetweenCoupled ∈ wB := wIn 6 (by decide +kernel) rfl
theorem wSE_X4_X4_goShaft : Cond.selects RX4 yX4_goShaft yX4_goShaft ∈ wB := wIn 7 (by decide +kernel) rfl
theorem wSE_X4_X4_goBarrel : Cond.selects RX4 yX4_goBarrel yX4_goBarrel ∈ wB := wIn 8 (by decide +kernel) rfl
theorem wSE_X4_X4_soundPlace : Cond.selects RX4 yX4_soundPlace yX4_soundPlace ∈ wB := wIn 9 (by decide +kernel) rfl
theorem wSE_X4_X4_heldByAll : Cond.selects RX4 yX4_heldByAll yX4_heldByAll ∈ wB := wIn 10 (by decide +kernel) rfl
theorem wIN_L : Cond.initialized RL ∈ wB := wIn 11 (by decide +kernel) rfl
theorem wIN_X4 : Cond.initialized RX4 ∈ wB := wIn 12 (by decide +kernel) rfl
theorem wIN_X2 : Cond.initialized RX2 ∈ wB := wIn 13 (by decide +kernel) rfl
theorem wIN_X6 : Cond.initialized RX6 ∈ wB := wIn 14 (by decide +kernel) rfl
theorem wIN_java_lang_Throwable : Cond.initialized "java/lang/Throwable" ∈ wB := wIn 15 (by decide +kernel) rfl
theorem wIN_java_lang_Exception : Cond.initialized "java/lang/Exception" ∈ wB := wIn 16 (by decide +kernel) rfl
theorem wIN_java_lang_RuntimeException : Cond.initialized "java/lang/RuntimeException" ∈ wB := wIn 17 (by decide +kernel) rfl
theorem wIN_java_lang_IllegalArgumentException : Cond.initialized "java/lang/IllegalArgumentException" ∈ wB := wIn 18 (by decide +kernel) rfl
theorem wIN_java_lang_IllegalStateException : Cond.initialized "java/lang/IllegalStateException" ∈ wB := wIn 19 (by decide +kernel) rfl
theorem wIN_X3 : Cond.initialized RX3 ∈ wB := wIn 20 (by decide +kernel) rfl
theorem wIN_java_lang_IndexOutOfBoundsException : Cond.initialized "java/lang/IndexOutOfBoundsException" ∈ wB := wIn 21 (by decide +kernel) rfl
theorem wIN_J9 : Cond.initialized RJ9 ∈ wB := wIn 22 (by decide +kernel) rfl
theorem wIN_X5 : Cond.initialized RX5 ∈ wB := wIn 23 (by decide +kernel) rfl
theorem wIN_J6 : Cond.initialized RJ6 ∈ wB := wIn 24 (by decide +kernel) rfl
theorem wIN_X0 : Cond.initialized RX0 ∈ wB := wIn 25 (by decide +kernel) rfl
theorem wIN_X1 : Cond.initialized RX1 ∈ wB := wIn 26 (by decide +kernel) rfl
theorem wIN_J13 : Cond.initialized RJ13 ∈ wB := wIn 27 (by decide +kernel) rfl
theorem wCL_L_23 : Cond.classLink RL 23 RX4 ∈ wB := wIn 28 (by decide +kernel) rfl
theorem wIS_X4 : Cond.instantiable RX4 7 ∈ wB := wIn 29 (by decide +kernel) rfl
theorem wML_L_96 : Cond.methodLink RL 96 yX4_init ∈ wB := wIn 30 (by decide +kernel) rfl
theorem wIM_X4_init : Cond.instanceMethod yX4_init ∈ wB := wIn 31 (by decide +kernel) rfl
theorem wCO_X4_init : Cond.code yX4_init cX4_init 1 none ∈ wB := wIn 32 (by decide +kernel) rfl
theorem wML_X4_1 : Cond.methodLink RX4 1 objectInit ∈ wB := wIn 33 (by decide +kernel) rfl
theorem wIM_java_lang_Object__init____V : Cond.instanceMethod objectInit ∈ wB := wIn 34 (by decide +kernel) rfl
theorem wCO_java_lang_Object__init____V : Cond.code objectInit object_method_1_code 1 none ∈ wB := wIn 35 (by decide +kernel) rfl
theorem wCL_X4_9 : Cond.classLink RX4 9 RX3 ∈ wB := wIn 36 (by decide +kernel) rfl
theorem warrayOver___object__BirdParlour_Spring__ : Cond.arrayOver (.object "BirdParlour$Spring") ∈ lw_tbl := List.mem_of_getElem? (i := 37) (by decide +kernel)
theorem wCL_X4_15 : Cond.classLink RX4 15 RX0 ∈ wB := wIn 38 (by decide +kernel) rfl
theorem warrayOver___object__BirdParlour_Bird__ : Cond.arrayOver (.object "BirdParlour$Bird") ∈ lw_tbl := List.mem_of_getElem? (i := 39) (by decide +kernel)
theorem wCL_X4_21 : Cond.classLink RX4 21 RX2 ∈ wB := wIn 40 (by decide +kernel) rfl
theorem wIS_X2 : Cond.instantiable RX2 5 ∈ wB := wIn 41 (by decide +kernel) rfl
theorem wMN_X4_23 : Cond.methodLinkNest RX4 23 yX2_init "BirdParlour" ∈ lw_tbl := List.mem_of_getElem? (i := 42) (by decide +kernel)
theorem wIM_X2_init : Cond.instanceMethod yX2_init ∈ wB := wIn 43 (by decide +kernel) rfl
theorem wCO_X2_init : Cond.code yX2_init cX2_init 1 none ∈ wB := wIn 44 (by decide +kernel) rfl
theorem wML_X2_3 : Cond.methodLink RX2 3 objectInit ∈ wB := wIn 45 (by decide +kernel) rfl
theorem wFL_X2_9 : Cond.fieldLink RX2 9 RX2 "kept" "[I" ∈ wB := wIn 46 (by decide +kernel) rfl
theorem wFL_X2_15 : Cond.fieldLink RX2 15 RX2 "keptNotes" "I" ∈ wB := wIn 47 (by decide +kernel) rfl
theorem wFL_X4_245 : Cond.fieldLink RX4 245 RX2 "keptNotes" "I" ∈ wB := wIn 48 (by decide +kernel) rfl
theorem wFL_X2_22 : Cond.fieldLink RX2 22 RX2 "allNotes" "I" ∈ wB := wIn 49 (by decide +kernel) rfl
theorem wFL_X4_237 : Cond.fieldLink RX4 237 RX2 "allNotes" "I" ∈ wB := wIn 50 (by decide +kernel) rfl
theorem warrayClass__int : Cond.arrayClass .int ∈ wB := wIn 62 (by decide +kernel) rfl
theorem wFL_X4_11 : Cond.fieldLink RX4 11 RX4 "springs" "[LBirdParlour$Spring;" ∈ wB := wIn 63 (by decide +kernel) rfl
theorem wFL_X4_17 : Cond.fieldLink RX4 17 RX4 "birds" "[LBirdParlour$Bird;" ∈ wB := wIn 64 (by decide +kernel) rfl
theorem wFL_X4_24 : Cond.fieldLink RX4 24 RX4 "songs" "LBirdParlour$Songs;" ∈ wB := wIn 65 (by decide +kernel) rfl
theorem wFL_X4_39 : Cond.fieldLink RX4 39 RX4 "springCount" "I" ∈ wB := wIn 66 (by decide +kernel) rfl
theorem wFL_X4_114 : Cond.fieldLink RX4 114 RX4 "birdCount" "I" ∈ wB := wIn 67 (by decide +kernel) rfl
theorem wFL_X4_81 : Cond.fieldLink RX4 81 RX4 "couplings" "I" ∈ wB := wIn 68 (by decide +kernel) rfl
theorem wFL_X4_234 : Cond.fieldLink RX4 234 RX4 "tick" "I" ∈ wB := wIn 69 (by decide +kernel) rfl
theorem wML_L_28 : Cond.methodLink RL 28 yX4_wind ∈ wB := wIn 85 (by decide +kernel) rfl
theorem wIM_X4_wind : Cond.instanceMethod yX4_wind ∈ wB := wIn 86 (by decide +kernel) rfl
theorem wSE_X4_X4_wind : Cond.selects RX4 yX4_wind yX4_wind ∈ wB := wIn 87 (by decide +kernel) rfl
theorem wCO_X4_wind : Cond.code yX4_wind cX4_wind 4 (some .int) ∈ wB := wIn 88 (by decide +kernel) rfl
theorem wML_X4_51 : Cond.methodLink RX4 51 yX4_springAt ∈ wB := wIn 89 (by decide +kernel) rfl
theorem wPM_X4_springAt : Cond.privateMethod yX4_springAt ∈ lw_tbl := List.mem_of_getElem? (i := 90) (by decide +kernel)
theorem wIM_X4_springAt : Cond.instanceMethod yX4_springAt ∈ wB := wIn 91 (by decide +kernel) rfl
theorem wCO_X4_springAt : Cond.code yX4_springAt cX4_springAt 2 (some (.object "BirdParlour$Spring")) ∈ wB := wIn 92 (by decide +kernel) rfl
theorem wCL_X4_55 : Cond.classLink RX4 55 "java/lang/IndexOutOfBoundsException" ∈ wB := wIn 93 (by decide +kernel) rfl
theorem wCA_java_lang_IndexOutOfBoundsException_java_lang_IndexOutOfBoundsException : Cond.castable "java/lang/IndexOutOfBoundsException" "java/lang/IndexOutOfBoundsException" ∈ lw_tbl := List.mem_of_getElem? (i := 95) (by decide +kernel)
theorem wlaysStatic_java_lang_Throwable_UNASSIGNED_STACK : Cond.laysStatic "java/lang/Throwable" "UNASSIGNED_STACK" "[Ljava/lang/StackTraceElement;" ∈ lw_tbl := List.mem_of_getElem? (i := 120) (by decide +kernel)
theorem wlaysStatic_java_lang_Throwable_SUPPRESSED_SENTINEL : Cond.laysStatic "java/lang/Throwable" "SUPPRESSED_SENTINEL" "Ljava/util/List;" ∈ lw_tbl := List.mem_of_getElem? (i := 122) (by decide +kernel)
theorem wPM_java_lang_Throwable_fillInStackTrace__I_Ljava_lang_Throwable_ : Cond.privateMethod ⟨"java/lang/Throwable", "fillInStackTrace", "(I)Ljava/lang/Throwable;"⟩ ∈ lw_tbl := List.mem_of_getElem? (i := 130) (by decide +kernel)
theorem wNA_java_lang_Throwable_fillInStackTrace__I_Ljava_lang_Throwable_ : Cond.native ⟨"java/lang/Throwable", "fillInStackTrace", "(I)Ljava/lang/Throwable;"⟩ ∈ lw_tbl := List.mem_of_getElem? (i := 133) (by decide +kernel)
theorem wSR_57 : Cond.stringRef RX4 57 "no such spring" ∈ lw_tbl := List.mem_of_getElem? (i := 134) (by decide +kernel)
theorem wML_X4_59 : Cond.methodLink RX4 59 ⟨"java/lang/IndexOutOfBoundsException", "<init>", "(Ljava/lang/String;)V"⟩ ∈ wB := wIn 135 (by decide +kernel) rfl
theorem warrayClass__byte : Cond.arrayClass .byte ∈ wB := wIn 160 (by decide +kernel) rfl
theorem wconstant_X4_60 : Cond.constant RX4 60 200000 ∈ wB := wIn 161 (by decide +kernel) rfl
theorem wML_X4_28 : Cond.methodLink RX4 28 yX4_isIn ∈ wB := wIn 162 (by decide +kernel) rfl
theorem wST_X4_isIn : Cond.static yX4_isIn ∈ wB := wIn 163 (by decide +kernel) rfl
theorem wCO_X4_isIn : Cond.code yX4_isIn cX4_isIn 3 (some .boolean) ∈ wB := wIn 164 (by decide +kernel) rfl
theorem wCL_X4_32 : Cond.classLink RX4 32 "java/lang/IllegalArgumentException" ∈ wB := wIn 165 (by decide +kernel) rfl
theorem wCA_java_lang_IllegalArgumentException_java_lang_IllegalArgumentException : Cond.castable "java/lang/IllegalArgumentException" "java/lang/IllegalArgumentException" ∈ lw_tbl := List.mem_of_getElem? (i := 167) (by decide +kernel)
theorem wSR_61 : Cond.stringRef RX4 61 "turns is not 1 to 200000" ∈ lw_tbl := List.mem_of_getElem? (i := 174) (by decide +kernel)
theorem wML_X4_36 : Cond.methodLink RX4 36 ⟨"java/lang/IllegalArgumentException", "<init>", "(Ljava/lang/String;)V"⟩ ∈ wB := wIn 175 (by decide +kernel) rfl
theorem wML_X4_66 : Cond.methodLink RX4 66 Lib.Math.min.name ∈ wB := wIn 181 (by decide +kernel) rfl
theorem wST_J9_min_7cf53 : Cond.static Lib.Math.min.name ∈ wB := wIn 182 (by decide +kernel) rfl
theorem wCO_J9_min_7cf53 : Cond.code Lib.Math.min.name Lib.Math.min.code 2 (some .int) ∈ wB := wIn 183 (by decide +kernel) rfl
theorem wML_L_104 : Cond.methodLink RL 104 yX4_spring ∈ wB := wIn 184 (by decide +kernel) rfl
theorem wIM_X4_spring : Cond.instanceMethod yX4_spring ∈ wB := wIn 185 (by decide +kernel) rfl
theorem wSE_X4_X4_spring : Cond.selects RX4 yX4_spring yX4_spring ∈ wB := wIn 186 (by decide +kernel) rfl
theorem wCO_X4_spring : Cond.code yX4_spring cX4_spring 4 (some .int) ∈ wB := wIn 187 (by decide +kernel) rfl
theorem wML_X4_100 : Cond.methodLink RX4 100 yX4_birdsDrivenBy ∈ wB := wIn 188 (by decide +kernel) rfl
theorem wPM_X4_birdsDrivenBy : Cond.privateMethod yX4_birdsDrivenBy ∈ lw_tbl := List.mem_of_getElem? (i := 189) (by decide +kernel)
theorem wIM_X4_birdsDrivenBy : Cond.instanceMethod yX4_birdsDrivenBy ∈ wB := wIn 190 (by decide +kernel) rfl
theorem wCO_X4_birdsDrivenBy : Cond.code yX4_birdsDrivenBy cX4_birdsDrivenBy 7 (some .int) ∈ wB := wIn 191 (by decide +kernel) rfl
theorem wML_X4_314 : Cond.methodLink RX4 314 yX0_isDrivenBy ∈ wB := wIn 192 (by decide +kernel) rfl
theorem wIM_X0_isDrivenBy : Cond.instanceMethod yX0_isDrivenBy ∈ wB := wIn 193 (by decide +kernel) rfl
theorem wSE_X0_X0_isDrivenBy : Cond.selects RX0 yX0_isDrivenBy yX0_isDrivenBy ∈ wB := wIn 194 (by decide +kernel) rfl
theorem wCO_X0_isDrivenBy : Cond.code yX0_isDrivenBy cX0_isDrivenBy 2 (some .boolean) ∈ wB := wIn 195 (by decide +kernel) rfl
theorem wML_X4_103 : Cond.methodLink RX4 103 yX4_loadOn ∈ wB := wIn 196 (by decide +kernel) rfl
theorem wPM_X4_loadOn : Cond.privateMethod yX4_loadOn ∈ lw_tbl := List.mem_of_getElem? (i := 197) (by decide +kernel)
theorem wIM_X4_loadOn : Cond.instanceMethod yX4_loadOn ∈ wB := wIn 198 (by decide +kernel) rfl
theorem wCO_X4_loadOn : Cond.code yX4_loadOn cX4_loadOn 7 (some .int) ∈ wB := wIn 199 (by decide +kernel) rfl
theorem wML_X4_345 : Cond.methodLink RX4 345 yX0_burden ∈ wB := wIn 200 (by decide +kernel) rfl
theorem wIM_X0_burden : Cond.instanceMethod yX0_burden ∈ wB := wIn 201 (by decide +kernel) rfl
theorem wSE_X0_X0_burden : Cond.selects RX0 yX0_burden yX0_burden ∈ wB := wIn 202 (by decide +kernel) rfl
theorem wCO_X0_burden : Cond.code yX0_burden cX0_burden 7 (some .int) ∈ wB := wIn 203 (by decide +kernel) rfl
theorem wML_X0_86 : Cond.methodLink RX0 86 yX0_placeNow ∈ wB := wIn 204 (by decide +kernel) rfl
theorem wIM_X0_placeNow : Cond.instanceMethod yX0_placeNow ∈ wB := wIn 205 (by decide +kernel) rfl
theorem wSE_X0_X0_placeNow : Cond.selects RX0 yX0_placeNow yX0_placeNow ∈ wB := wIn 206 (by decide +kernel) rfl
theorem wCO_X0_placeNow : Cond.code yX0_placeNow cX0_placeNow 1 (some .int) ∈ wB := wIn 207 (by decide +kernel) rfl
theorem wML_X0_63 : Cond.methodLink RX0 63 yX0_placeWhenGone ∈ wB := wIn 208 (by decide +kernel) rfl
theorem wIM_X0_placeWhenGone : Cond.instanceMethod yX0_placeWhenGone ∈ wB := wIn 209 (by decide +kernel) rfl
theorem wSE_X0_X0_placeWhenGone : Cond.selects RX0 yX0_placeWhenGone yX0_placeWhenGone ∈ wB := wIn 210 (by decide +kernel) rfl
theorem wCO_X0_placeWhenGone : Cond.code yX0_placeWhenGone cX0_placeWhenGone 3 (some .int) ∈ wB := wIn 211 (by decide +kernel) rfl
theorem wMN_X0_71 : Cond.methodLinkNest RX0 71 yX4_at "BirdParlour" ∈ lw_tbl := List.mem_of_getElem? (i := 212) (by decide +kernel)
theorem wST_X4_at : Cond.static yX4_at ∈ wB := wIn 213 (by decide +kernel) rfl
theorem wCO_X4_at : Cond.code yX4_at cX4_at 2 (some .int) ∈ wB := wIn 214 (by decide +kernel) rfl
theorem wSR_106 : Cond.stringRef RX4 106 "what is not 0 to 6" ∈ lw_tbl := List.mem_of_getElem? (i := 215) (by decide +kernel)
theorem wML_L_106 : Cond.methodLink RL 106 yX4_bird ∈ wB := wIn 216 (by decide +kernel) rfl
theorem wIM_X4_bird : Cond.instanceMethod yX4_bird ∈ wB := wIn 217 (by decide +kernel) rfl
theorem wSE_X4_X4_bird : Cond.selects RX4 yX4_bird yX4_bird ∈ wB := wIn 218 (by decide +kernel) rfl
theorem wCO_X4_bird : Cond.code yX4_bird cX4_bird 4 (some .int) ∈ wB := wIn 219 (by decide +kernel) rfl
theorem wML_X4_122 : Cond.methodLink RX4 122 yX4_birdAt ∈ wB := wIn 220 (by decide +kernel) rfl
theorem wPM_X4_birdAt : Cond.privateMethod yX4_birdAt ∈ lw_tbl := List.mem_of_getElem? (i := 221) (by decide +kernel)
theorem wIM_X4_birdAt : Cond.instanceMethod yX4_birdAt ∈ wB := wIn 222 (by decide +kernel) rfl
theorem wCO_X4_birdAt : Cond.code yX4_birdAt cX4_birdAt 2 (some (.object "BirdParlour$Bird")) ∈ wB := wIn 223 (by decide +kernel) rfl
theorem wSR_126 : Cond.stringRef RX4 126 "no such bird" ∈ lw_tbl := List.mem_of_getElem? (i := 224) (by decide +kernel)
theorem wML_X4_212 : Cond.methodLink RX4 212 yX0_placeNow ∈ wB := wIn 225 (by decide +kernel) rfl
theorem wSR_222 : Cond.stringRef RX4 222 "what is not 0 to 9" ∈ lw_tbl := List.mem_of_getElem? (i := 226) (by decide +kernel)
theorem wML_L_120 : Cond.methodLink RL 120 yX4_lift ∈ wB := wIn 227 (by decide +kernel) rfl
theorem wIM_X4_lift : Cond.instanceMethod yX4_lift ∈ wB := wIn 228 (by decide +kernel) rfl
theorem wSE_X4_X4_lift : Cond.selects RX4 yX4_lift yX4_lift ∈ wB := wIn 229 (by decide +kernel) rfl
theorem wCO_X4_lift : Cond.code yX4_lift cX4_lift 6 (some .int) ∈ wB := wIn 230 (by decide +kernel) rfl
theorem wML_X4_173 : Cond.methodLink RX4 173 yX0_camAt ∈ wB := wIn 231 (by decide +kernel) rfl
theorem wIM_X0_camAt : Cond.instanceMethod yX0_camAt ∈ wB := wIn 232 (by decide +kernel) rfl
theorem wSE_X0_X0_camAt : Cond.selects RX0 yX0_camAt yX0_camAt ∈ wB := wIn 233 (by decide +kernel) rfl
theorem wCO_X0_camAt : Cond.code yX0_camAt cX0_camAt 2 (some (.object "BirdParlour$Cam")) ∈ wB := wIn 234 (by decide +kernel) rfl
theorem wSR_177 : Cond.stringRef RX4 177 "no such bird or cam" ∈ lw_tbl := List.mem_of_getElem? (i := 235) (by decide +kernel)
theorem wML_X4_138 : Cond.methodLink RX4 138 yX0_hasPlace ∈ wB := wIn 236 (by decide +kernel) rfl
theorem wIM_X0_hasPlace : Cond.instanceMethod yX0_hasPlace ∈ wB := wIn 237 (by decide +kernel) rfl
theorem wSE_X0_X0_hasPlace : Cond.selects RX0 yX0_hasPlace yX0_hasPlace ∈ wB := wIn 238 (by decide +kernel) rfl
theorem wCO_X0_hasPlace : Cond.code yX0_hasPlace cX0_hasPlace 2 (some .boolean) ∈ wB := wIn 239 (by decide +kernel) rfl
theorem wMN_X0_67 : Cond.methodLinkNest RX0 67 yX4_isIn "BirdParlour" ∈ lw_tbl := List.mem_of_getElem? (i := 240) (by decide +kernel)
theorem wSR_224 : Cond.stringRef RX4 224 "place is neither -1 nor on the barrel" ∈ lw_tbl := List.mem_of_getElem? (i := 241) (by decide +kernel)
theorem wML_X4_165 : Cond.methodLink RX4 165 yX4_at ∈ wB := wIn 242 (by decide +kernel) rfl
theorem wML_L_115 : Cond.methodLink RL 115 yX4_run ∈ wB := wIn 243 (by decide +kernel) rfl
theorem wIM_X4_run : Cond.instanceMethod yX4_run ∈ wB := wIn 244 (by decide +kernel) rfl
theorem wSE_X4_X4_run : Cond.selects RX4 yX4_run yX4_run ∈ wB := wIn 245 (by decide +kernel) rfl
theorem wCO_X4_run : Cond.code yX4_run cX4_run 4 (some .int) ∈ wB := wIn 246 (by decide +kernel) rfl
theorem wSR_229 : Cond.stringRef RX4 229 "ticks is not 1 to 500" ∈ lw_tbl := List.mem_of_getElem? (i := 247) (by decide +kernel)
theorem wML_X4_231 : Cond.methodLink RX4 231 yX4_goOneTick ∈ wB := wIn 248 (by decide +kernel) rfl
theorem wPM_X4_goOneTick : Cond.privateMethod yX4_goOneTick ∈ lw_tbl := List.mem_of_getElem? (i := 249) (by decide +kernel)
theorem wIM_X4_goOneTick : Cond.instanceMethod yX4_goOneTick ∈ wB := wIn 250 (by decide +kernel) rfl
theorem wCO_X4_goOneTick : Cond.code yX4_goOneTick cX4_goOneTick 4 (some .int) ∈ wB := wIn 251 (by decide +kernel) rfl
theorem wML_X4_297 : Cond.methodLink RX4 297 yX4_shareBetweenCoupled ∈ wB := wIn 252 (by decide +kernel) rfl
theorem wPM_X4_shareBetweenCoupled : Cond.privateMethod yX4_shareBetweenCoupled ∈ lw_tbl := List.mem_of_getElem? (i := 253) (by decide +kernel)
theorem wIM_X4_shareBetweenCoupled : Cond.instanceMethod yX4_shareBetweenCoupled ∈ wB := wIn 254 (by decide +kernel) rfl
theorem wCO_X4_shareBetweenCoupled : Cond.code yX4_shareBetweenCoupled cX4_shareBetweenCoupled 3 none ∈ wB := wIn 255 (by decide +kernel) rfl
theorem wML_X4_78 : Cond.methodLink RX4 78 yX4_pairBit ∈ wB := wIn 256 (by decide +kernel) rfl
theorem wST_X4_pairBit : Cond.static yX4_pairBit ∈ wB := wIn 257 (by decide +kernel) rfl
theorem wCO_X4_pairBit : Cond.code yX4_pairBit cX4_pairBit 2 (some .int) ∈ wB := wIn 258 (by decide +kernel) rfl
theorem wML_X4_262 : Cond.methodLink RX4 262 Lib.Math.max.name ∈ wB := wIn 259 (by decide +kernel) rfl
theorem wST_J9_max_7cf53 : Cond.static Lib.Math.max.name ∈ wB := wIn 260 (by decide +kernel) rfl
theorem wCO_J9_max_7cf53 : Cond.code Lib.Math.max.name Lib.Math.max.code 2 (some .int) ∈ wB := wIn 261 (by decide +kernel) rfl
theorem wML_X4_304 : Cond.methodLink RX4 304 yX4_shareBetween ∈ wB := wIn 262 (by decide +kernel) rfl
theorem wST_X4_shareBetween : Cond.static yX4_shareBetween ∈ wB := wIn 263 (by decide +kernel) rfl
theorem wCO_X4_shareBetween : Cond.code yX4_shareBetween cX4_shareBetween 3 none ∈ wB := wIn 264 (by decide +kernel) rfl
theorem wML_X4_300 : Cond.methodLink RX4 300 yX4_goShaft ∈ wB := wIn 265 (by decide +kernel) rfl
theorem wPM_X4_goShaft : Cond.privateMethod yX4_goShaft ∈ lw_tbl := List.mem_of_getElem? (i := 266) (by decide +kernel)
theorem wIM_X4_goShaft : Cond.instanceMethod yX4_goShaft ∈ wB := wIn 267 (by decide +kernel) rfl
theorem wCO_X4_goShaft : Cond.code yX4_goShaft cX4_goShaft 6 (some .int) ∈ wB := wIn 268 (by decide +kernel) rfl
theorem wML_X4_308 : Cond.methodLink RX4 308 yX3_speedUnder ∈ wB := wIn 269 (by decide +kernel) rfl
theorem wIM_X3_speedUnder : Cond.instanceMethod yX3_speedUnder ∈ wB := wIn 270 (by decide +kernel) rfl
theorem wSE_X3_X3_speedUnder : Cond.selects RX3 yX3_speedUnder yX3_speedUnder ∈ wB := wIn 271 (by decide +kernel) rfl
theorem wCO_X3_speedUnder : Cond.code yX3_speedUnder cX3_speedUnder 4 (some .int) ∈ wB := wIn 272 (by decide +kernel) rfl
theorem wML_X3_34 : Cond.methodLink RX3 34 Lib.Math.max.name ∈ wB := wIn 273 (by decide +kernel) rfl
theorem wML_X3_40 : Cond.methodLink RX3 40 Lib.Math.min.name ∈ wB := wIn 274 (by decide +kernel) rfl
theorem wML_X4_311 : Cond.methodLink RX4 311 yX3_turn ∈ wB := wIn 275 (by decide +kernel) rfl
theorem wIM_X3_turn : Cond.instanceMethod yX3_turn ∈ wB := wIn 276 (by decide +kernel) rfl
theorem wSE_X3_X3_turn : Cond.selects RX3 yX3_turn yX3_turn ∈ wB := wIn 277 (by decide +kernel) rfl
theorem wCO_X3_turn : Cond.code yX3_turn cX3_turn 2 none ∈ wB := wIn 278 (by decide +kernel) rfl
theorem wML_X4_317 : Cond.methodLink RX4 317 yX4_goBarrel ∈ wB := wIn 279 (by decide +kernel) rfl
theorem wPM_X4_goBarrel : Cond.privateMethod yX4_goBarrel ∈ lw_tbl := List.mem_of_getElem? (i := 280) (by decide +kernel)
theorem wIM_X4_goBarrel : Cond.instanceMethod yX4_goBarrel ∈ wB := wIn 281 (by decide +kernel) rfl
theorem wCO_X4_goBarrel : Cond.code yX4_goBarrel cX4_goBarrel 10 (some .int) ∈ wB := wIn 282 (by decide +kernel) rfl
theorem wML_X4_321 : Cond.methodLink RX4 321 yX0_goneWhen ∈ wB := wIn 283 (by decide +kernel) rfl
theorem wIM_X0_goneWhen : Cond.instanceMethod yX0_goneWhen ∈ wB := wIn 284 (by decide +kernel) rfl
theorem wSE_X0_X0_goneWhen : Cond.selects RX0 yX0_goneWhen yX0_goneWhen ∈ wB := wIn 285 (by decide +kernel) rfl
theorem wCO_X0_goneWhen : Cond.code yX0_goneWhen cX0_goneWhen 5 (some .long) ∈ wB := wIn 286 (by decide +kernel) rfl
theorem wconstantLong_X0_61 : Cond.constantLong RX0 61 1000 ∈ wB := wIn 287 (by decide +kernel) rfl
theorem wML_X4_325 : Cond.methodLink RX4 325 Lib.MathLoose.min_long.x ∈ wB := wIn 288 (by decide +kernel) rfl
theorem wST_J9_min_f86c9 : Cond.static Lib.MathLoose.min_long.x ∈ wB := wIn 289 (by decide +kernel) rfl
theorem wCO_J9_min_f86c9 : Cond.code Lib.MathLoose.min_long.x Lib.MathLoose.min_long.code 4 (some .long) ∈ wB := wIn 290 (by decide +kernel) rfl
theorem wML_X4_328 : Cond.methodLink RX4 328 yX0_placeWhenGone ∈ wB := wIn 291 (by decide +kernel) rfl
theorem wML_X4_334 : Cond.methodLink RX4 334 yX4_soundPlace ∈ wB := wIn 292 (by decide +kernel) rfl
theorem wPM_X4_soundPlace : Cond.privateMethod yX4_soundPlace ∈ lw_tbl := List.mem_of_getElem? (i := 293) (by decide +kernel)
theorem wIM_X4_soundPlace : Cond.instanceMethod yX4_soundPlace ∈ wB := wIn 294 (by decide +kernel) rfl
theorem wCO_X4_soundPlace : Cond.code yX4_soundPlace cX4_soundPlace 7 (some .int) ∈ wB := wIn 295 (by decide +kernel) rfl
theorem wML_X4_146 : Cond.methodLink RX4 146 yX0_hasPin ∈ wB := wIn 296 (by decide +kernel) rfl
theorem wIM_X0_hasPin : Cond.instanceMethod yX0_hasPin ∈ wB := wIn 297 (by decide +kernel) rfl
theorem wSE_X0_X0_hasPin : Cond.selects RX0 yX0_hasPin yX0_hasPin ∈ wB := wIn 298 (by decide +kernel) rfl
theorem wCO_X0_hasPin : Cond.code yX0_hasPin cX0_hasPin 3 (some .boolean) ∈ wB := wIn 299 (by decide +kernel) rfl
theorem wML_X4_338 : Cond.methodLink RX4 338 yX3_payForNote ∈ wB := wIn 300 (by decide +kernel) rfl
theorem wIM_X3_payForNote : Cond.instanceMethod yX3_payForNote ∈ wB := wIn 301 (by decide +kernel) rfl
theorem wSE_X3_X3_payForNote : Cond.selects RX3 yX3_payForNote yX3_payForNote ∈ wB := wIn 302 (by decide +kernel) rfl
theorem wCO_X3_payForNote : Cond.code yX3_payForNote cX3_payForNote 1 none ∈ wB := wIn 303 (by decide +kernel) rfl
theorem wML_X4_341 : Cond.methodLink RX4 341 yX2_hear ∈ wB := wIn 304 (by decide +kernel) rfl
theorem wIM_X2_hear : Cond.instanceMethod yX2_hear ∈ wB := wIn 305 (by decide +kernel) rfl
theorem wSE_X2_X2_hear : Cond.selects RX2 yX2_hear yX2_hear ∈ wB := wIn 306 (by decide +kernel) rfl
theorem wCO_X2_hear : Cond.code yX2_hear cX2_hear 6 none ∈ wB := wIn 307 (by decide +kernel) rfl
theorem wMN_X2_28 : Cond.methodLinkNest RX2 28 yX4_put "BirdParlour" ∈ lw_tbl := List.mem_of_getElem? (i := 308) (by decide +kernel)
theorem wST_X4_put : Cond.static yX4_put ∈ wB := wIn 309 (by decide +kernel) rfl
theorem wCO_X4_put : Cond.code yX4_put cX4_put 3 none ∈ wB := wIn 310 (by decide +kernel) rfl
theorem wML_L_101 : Cond.methodLink RL 101 yX4_count ∈ wB := wIn 311 (by decide +kernel) rfl
theorem wIM_X4_count : Cond.instanceMethod yX4_count ∈ wB := wIn 312 (by decide +kernel) rfl
theorem wSE_X4_X4_count : Cond.selects RX4 yX4_count yX4_count ∈ wB := wIn 313 (by decide +kernel) rfl
theorem wCO_X4_count : Cond.code yX4_count cX4_count 2 (some .int) ∈ wB := wIn 314 (by decide +kernel) rfl
theorem wML_X4_84 : Cond.methodLink RX4 84 yJ6_bitCount_0f7a4 ∈ wB := wIn 315 (by decide +kernel) rfl
theorem wST_J6_bitCount_0f7a4 : Cond.static yJ6_bitCount_0f7a4 ∈ wB := wIn 316 (by decide +kernel) rfl
theorem wCO_J6_bitCount_0f7a4 : Cond.code yJ6_bitCount_0f7a4 cJ6_bitCount_0f7a4 1 (some .int) ∈ wB := wIn 317 (by decide +kernel) rfl
theorem wconstant_J6_265 : Cond.constant RJ6 265 1431655765 ∈ wB := wIn 318 (by decide +kernel) rfl
theorem wconstant_J6_266 : Cond.constant RJ6 266 858993459 ∈ wB := wIn 319 (by decide +kernel) rfl
theorem wconstant_J6_267 : Cond.constant RJ6 267 252645135 ∈ wB := wIn 320 (by decide +kernel) rfl
theorem wML_X4_240 : Cond.methodLink RX4 240 yX4_heldByAll ∈ wB := wIn 321 (by decide +kernel) rfl
theorem wPM_X4_heldByAll : Cond.privateMethod yX4_heldByAll ∈ lw_tbl := List.mem_of_getElem? (i := 322) (by decide +kernel)
theorem wIM_X4_heldByAll : Cond.instanceMethod yX4_heldByAll ∈ wB := wIn 323 (by decide +kernel) rfl
theorem wCO_X4_heldByAll : Cond.code yX4_heldByAll cX4_heldByAll 6 (some .int) ∈ wB := wIn 324 (by decide +kernel) rfl
theorem wSR_243 : Cond.stringRef RX4 243 "what is not 0 to 5" ∈ lw_tbl := List.mem_of_getElem? (i := 325) (by decide +kernel)
theorem wML_L_129 : Cond.methodLink RL 129 yX4_sung ∈ wB := wIn 326 (by decide +kernel) rfl
theorem wIM_X4_sung : Cond.instanceMethod yX4_sung ∈ wB := wIn 327 (by decide +kernel) rfl
theorem wSE_X4_X4_sung : Cond.selects RX4 yX4_sung yX4_sung ∈ wB := wIn 328 (by decide +kernel) rfl
theorem wCO_X4_sung : Cond.code yX4_sung cX4_sung 3 (some .int) ∈ wB := wIn 329 (by decide +kernel) rfl
theorem wSR_248 : Cond.stringRef RX4 248 "no such note" ∈ lw_tbl := List.mem_of_getElem? (i := 330) (by decide +kernel)
theorem wSR_250 : Cond.stringRef RX4 250 "what is not 0 to 3" ∈ lw_tbl := List.mem_of_getElem? (i := 331) (by decide +kernel)
theorem wML_X4_252 : Cond.methodLink RX4 252 yX2_told ∈ wB := wIn 332 (by decide +kernel) rfl
theorem wIM_X2_told : Cond.instanceMethod yX2_told ∈ wB := wIn 333 (by decide +kernel) rfl
theorem wSE_X2_X2_told : Cond.selects RX2 yX2_told yX2_told ∈ wB := wIn 334 (by decide +kernel) rfl
theorem wCO_X2_told : Cond.code yX2_told cX2_told 3 (some .int) ∈ wB := wIn 335 (by decide +kernel) rfl
theorem wMN_X2_32 : Cond.methodLinkNest RX2 32 yX4_at "BirdParlour" ∈ lw_tbl := List.mem_of_getElem? (i := 336) (by decide +kernel)
theorem wML_L_126 : Cond.methodLink RL 126 yX4_chord ∈ wB := wIn 337 (by decide +kernel) rfl
theorem wIM_X4_chord : Cond.instanceMethod yX4_chord ∈ wB := wIn 338 (by decide +kernel) rfl
theorem wSE_X4_X4_chord : Cond.selects RX4 yX4_chord yX4_chord ∈ wB := wIn 339 (by decide +kernel) rfl
theorem wCO_X4_chord : Cond.code yX4_chord cX4_chord 8 (some .int) ∈ wB := wIn 340 (by decide +kernel) rfl
theorem wSR_255 : Cond.stringRef RX4 255 "tick is less than 0" ∈ lw_tbl := List.mem_of_getElem? (i := 341) (by decide +kernel)
theorem wML_X4_257 : Cond.methodLink RX4 257 yJ13_bitCount_95d88 ∈ wB := wIn 342 (by decide +kernel) rfl
theorem wST_J13_bitCount_95d88 : Cond.static yJ13_bitCount_95d88 ∈ wB := wIn 343 (by decide +kernel) rfl
theorem wCO_J13_bitCount_95d88 : Cond.code yJ13_bitCount_95d88 cJ13_bitCount_95d88 2 (some .int) ∈ wB := wIn 344 (by decide +kernel) rfl
theorem wconstantLong_J13_314 : Cond.constantLong RJ13 314 6148914691236517205 ∈ wB := wIn 345 (by decide +kernel) rfl
theorem wconstantLong_J13_316 : Cond.constantLong RJ13 316 3689348814741910323 ∈ wB := wIn 346 (by decide +kernel) rfl
theorem wconstantLong_J13_318 : Cond.constantLong RJ13 318 1085102592571150095 ∈ wB := wIn 347 (by decide +kernel) rfl
theorem wML_L_132 : Cond.methodLink RL 132 yX4_longest ∈ wB := wIn 348 (by decide +kernel) rfl
theorem wIM_X4_longest : Cond.instanceMethod yX4_longest ∈ wB := wIn 349 (by decide +kernel) rfl
theorem wSE_X4_X4_longest : Cond.selects RX4 yX4_longest yX4_longest ∈ wB := wIn 350 (by decide +kernel) rfl
theorem wCO_X4_longest : Cond.code yX4_longest cX4_longest 6 (some .int) ∈ wB := wIn 351 (by decide +kernel) rfl
theorem wML_L_136 : Cond.methodLink RL 136 yX4_emptySongs ∈ wB := wIn 352 (by decide +kernel) rfl
theorem wIM_X4_emptySongs : Cond.instanceMethod yX4_emptySongs ∈ wB := wIn 353 (by decide +kernel) rfl
theorem wSE_X4_X4_emptySongs : Cond.selects RX4 yX4_emptySongs yX4_emptySongs ∈ wB := wIn 354 (by decide +kernel) rfl
theorem wCO_X4_emptySongs : Cond.code yX4_emptySongs cX4_emptySongs 2 (some .int) ∈ wB := wIn 355 (by decide +kernel) rfl
theorem wML_X4_265 : Cond.methodLink RX4 265 yX2_clearAll ∈ wB := wIn 356 (by decide +kernel) rfl
theorem wIM_X2_clearAll : Cond.instanceMethod yX2_clearAll ∈ wB := wIn 357 (by decide +kernel) rfl
theorem wSE_X2_X2_clearAll : Cond.selects RX2 yX2_clearAll yX2_clearAll ∈ wB := wIn 358 (by decide +kernel) rfl
theorem wCO_X2_clearAll : Cond.code yX2_clearAll cX2_clearAll 1 none ∈ wB := wIn 359 (by decide +kernel) rfl
theorem wML_L_18 : Cond.methodLink RL 18 yL_below ∈ wB := wIn 360 (by decide +kernel) rfl
theorem wST_L_below : Cond.static yL_below ∈ wB := wIn 361 (by decide +kernel) rfl
theorem wCO_L_below : Cond.code yL_below cL_below 2 (some .int) ∈ wB := wIn 362 (by decide +kernel) rfl
theorem wconstant_L_7 : Cond.constant RL 7 2147483647 ∈ wB := wIn 363 (by decide +kernel) rfl
theorem wML_L_12 : Cond.methodLink RL 12 yL_cell ∈ wB := wIn 364 (by decide +kernel) rfl
theorem wST_L_cell : Cond.static yL_cell ∈ wB := wIn 365 (by decide +kernel) rfl
theorem wCO_L_cell : Cond.code yL_cell cL_cell 2 (some .int) ∈ wB := wIn 366 (by decide +kernel) rfl
theorem wconstant_L_8 : Cond.constant RL 8 790386105 ∈ wB := wIn 367 (by decide +kernel) rfl
theorem wML_L_97 : Cond.methodLink RL 97 yL_build ∈ wB := wIn 368 (by decide +kernel) rfl
theorem wST_L_build : Cond.static yL_build ∈ wB := wIn 369 (by decide +kernel) rfl
theorem wCO_L_build : Cond.code yL_build cL_build 19 (some (.object "BirdParlourLaw$Sim")) ∈ wB := wIn 370 rfl rfl
theorem wCL_L_9 : Cond.classLink RL 9 RX6 ∈ wB := wIn 371 (by decide +kernel) rfl
theorem wIS_X6 : Cond.instantiable RX6 6 ∈ wB := wIn 372 (by decide +kernel) rfl
theorem wMN_L_11 : Cond.methodLinkNest RL 11 yX6_init "BirdParlourLaw" ∈ lw_tbl := List.mem_of_getElem? (i := 373) (by decide +kernel)
theorem wIM_X6_init : Cond.instanceMethod yX6_init ∈ wB := wIn 374 (by decide +kernel) rfl
theorem wCO_X6_init : Cond.code yX6_init cX6_init 1 none ∈ wB := wIn 375 (by decide +kernel) rfl
theorem wML_X6_1 : Cond.methodLink RX6 1 objectInit ∈ wB := wIn 376 (by decide +kernel) rfl
theorem wCL_X6_7 : Cond.classLink RX6 7 "[I" ∈ wB := wIn 377 (by decide +kernel) rfl
theorem warrayOver___array__int_ : Cond.arrayOver (.array .int) ∈ lw_tbl := List.mem_of_getElem? (i := 378) (by decide +kernel)
theorem wCL_X6_15 : Cond.classLink RX6 15 "[[Z" ∈ wB := wIn 379 (by decide +kernel) rfl
theorem warrayOver___array__boolean_ : Cond.arrayOver (.array .boolean) ∈ lw_tbl := List.mem_of_getElem? (i := 380) (by decide +kernel)
theorem wCL_X6_20 : Cond.classLink RX6 20 RX5 ∈ wB := wIn 381 (by decide +kernel) rfl
theorem warrayOver___object__BirdParlourLaw_Bird__ : Cond.arrayOver (.object "BirdParlourLaw$Bird") ∈ lw_tbl := List.mem_of_getElem? (i := 382) (by decide +kernel)
theorem wFL_X6_9 : Cond.fieldLink RX6 9 RX6 "springs" "[[I" ∈ wB := wIn 383 (by decide +kernel) rfl
theorem wFL_L_31 : Cond.fieldLink RL 31 RX6 "springs" "[[I" ∈ wB := wIn 384 (by decide +kernel) rfl
theorem wFL_X6_17 : Cond.fieldLink RX6 17 RX6 "coupled" "[[Z" ∈ wB := wIn 385 (by decide +kernel) rfl
theorem wFL_L_41 : Cond.fieldLink RL 41 RX6 "coupled" "[[Z" ∈ wB := wIn 386 (by decide +kernel) rfl
theorem wFL_X6_22 : Cond.fieldLink RX6 22 RX6 "birds" "[LBirdParlourLaw$Bird;" ∈ wB := wIn 387 (by decide +kernel) rfl
theorem wFL_L_92 : Cond.fieldLink RL 92 RX6 "birds" "[LBirdParlourLaw$Bird;" ∈ wB := wIn 388 (by decide +kernel) rfl
theorem wFL_X6_26 : Cond.fieldLink RX6 26 RX6 "songs" "[[I" ∈ wB := wIn 389 (by decide +kernel) rfl
theorem warrayClass__boolean : Cond.arrayClass .boolean ∈ wB := wIn 403 (by decide +kernel) rfl
theorem wML_L_22 : Cond.methodLink RL 22 yX4_addSpring ∈ wB := wIn 404 (by decide +kernel) rfl
theorem wIM_X4_addSpring : Cond.instanceMethod yX4_addSpring ∈ wB := wIn 405 (by decide +kernel) rfl
theorem wSE_X4_X4_addSpring : Cond.selects RX4 yX4_addSpring yX4_addSpring ∈ wB := wIn 406 (by decide +kernel) rfl
theorem wCO_X4_addSpring : Cond.code yX4_addSpring cX4_addSpring 3 (some .int) ∈ wB := wIn 407 (by decide +kernel) rfl
theorem wSR_34 : Cond.stringRef RX4 34 "strength is not 1 to 50" ∈ lw_tbl := List.mem_of_getElem? (i := 408) (by decide +kernel)
theorem wCL_X4_43 : Cond.classLink RX4 43 "java/lang/IllegalStateException" ∈ wB := wIn 409 (by decide +kernel) rfl
theorem wCA_java_lang_IllegalStateException_java_lang_IllegalStateException : Cond.castable "java/lang/IllegalStateException" "java/lang/IllegalStateException" ∈ lw_tbl := List.mem_of_getElem? (i := 411) (by decide +kernel)
theorem wSR_45 : Cond.stringRef RX4 45 "there are 4 springs" ∈ lw_tbl := List.mem_of_getElem? (i := 418) (by decide +kernel)
theorem wML_X4_47 : Cond.methodLink RX4 47 ⟨"java/lang/IllegalStateException", "<init>", "(Ljava/lang/String;)V"⟩ ∈ wB := wIn 419 (by decide +kernel) rfl
theorem wIS_X3 : Cond.instantiable RX3 8 ∈ wB := wIn 425 (by decide +kernel) rfl
theorem wML_X4_48 : Cond.methodLink RX4 48 yX3_init ∈ wB := wIn 426 (by decide +kernel) rfl
theorem wIM_X3_init : Cond.instanceMethod yX3_init ∈ wB := wIn 427 (by decide +kernel) rfl
theorem wCO_X3_init : Cond.code yX3_init cX3_init 2 none ∈ wB := wIn 428 (by decide +kernel) rfl
theorem wML_X3_3 : Cond.methodLink RX3 3 objectInit ∈ wB := wIn 429 (by decide +kernel) rfl
theorem wFL_X3_9 : Cond.fieldLink RX3 9 RX3 "strength" "I" ∈ wB := wIn 430 (by decide +kernel) rfl
theorem wFL_X4_90 : Cond.fieldLink RX4 90 RX3 "strength" "I" ∈ wB := wIn 431 (by decide +kernel) rfl
theorem wFL_X4_63 : Cond.fieldLink RX4 63 RX3 "held" "I" ∈ wB := wIn 432 (by decide +kernel) rfl
theorem wFL_X3_15 : Cond.fieldLink RX3 15 RX3 "held" "I" ∈ wB := wIn 433 (by decide +kernel) rfl
theorem wFL_X3_21 : Cond.fieldLink RX3 21 RX3 "shaft" "J" ∈ wB := wIn 434 (by decide +kernel) rfl
theorem wFL_X4_93 : Cond.fieldLink RX4 93 RX3 "shaft" "J" ∈ wB := wIn 435 (by decide +kernel) rfl
theorem wFL_X3_28 : Cond.fieldLink RX3 28 RX3 "speed" "I" ∈ wB := wIn 436 (by decide +kernel) rfl
theorem wFL_X4_97 : Cond.fieldLink RX4 97 RX3 "speed" "I" ∈ wB := wIn 437 (by decide +kernel) rfl
theorem wFL_X4_72 : Cond.fieldLink RX4 72 RX3 "isBraked" "Z" ∈ wB := wIn 438 (by decide +kernel) rfl
theorem wML_L_35 : Cond.methodLink RL 35 yX5_with ∈ wB := wIn 456 (by decide +kernel) rfl
theorem wST_X5_with : Cond.static yX5_with ∈ wB := wIn 457 (by decide +kernel) rfl
theorem wCO_X5_with : Cond.code yX5_with cX5_with 4 (some (.array (.array .int))) ∈ wB := wIn 458 (by decide +kernel) rfl
theorem wCL_X5_13 : Cond.classLink RX5 13 "[I" ∈ wB := wIn 459 (by decide +kernel) rfl
theorem wML_L_45 : Cond.methodLink RL 45 yX4_couple ∈ wB := wIn 460 (by decide +kernel) rfl
theorem wIM_X4_couple : Cond.instanceMethod yX4_couple ∈ wB := wIn 461 (by decide +kernel) rfl
theorem wSE_X4_X4_couple : Cond.selects RX4 yX4_couple yX4_couple ∈ wB := wIn 462 (by decide +kernel) rfl
theorem wCO_X4_couple : Cond.code yX4_couple cX4_couple 5 (some .int) ∈ wB := wIn 463 (by decide +kernel) rfl
theorem wSR_76 : Cond.stringRef RX4 76 "both are the same spring" ∈ lw_tbl := List.mem_of_getElem? (i := 464) (by decide +kernel)
theorem wCL_L_36 : Cond.classLink RL 36 RX5 ∈ wB := wIn 465 (by decide +kernel) rfl
theorem wIS_X5 : Cond.instantiable RX5 12 ∈ wB := wIn 466 (by decide +kernel) rfl
theorem wMN_L_49 : Cond.methodLinkNest RL 49 yX5_init "BirdParlourLaw" ∈ lw_tbl := List.mem_of_getElem? (i := 467) (by decide +kernel)
theorem wIM_X5_init : Cond.instanceMethod yX5_init ∈ wB := wIn 468 (by decide +kernel) rfl
theorem wCO_X5_init : Cond.code yX5_init cX5_init 1 none ∈ wB := wIn 469 (by decide +kernel) rfl
theorem wML_X5_1 : Cond.methodLink RX5 1 objectInit ∈ wB := wIn 470 (by decide +kernel) rfl
theorem wCL_X5_19 : Cond.classLink RX5 19 "[[[I" ∈ wB := wIn 471 (by decide +kernel) rfl
theorem warrayOver___array___array__int__ : Cond.arrayOver (.array (.array .int)) ∈ lw_tbl := List.mem_of_getElem? (i := 472) (by decide +kernel)
theorem wFL_L_50 : Cond.fieldLink RL 50 RX5 "spring" "I" ∈ wB := wIn 473 (by decide +kernel) rfl
theorem wFL_L_54 : Cond.fieldLink RL 54 RX5 "weight" "I" ∈ wB := wIn 474 (by decide +kernel) rfl
theorem wFL_L_57 : Cond.fieldLink RL 57 RX5 "n" "I" ∈ wB := wIn 475 (by decide +kernel) rfl
theorem wFL_L_60 : Cond.fieldLink RL 60 RX5 "p" "I" ∈ wB := wIn 476 (by decide +kernel) rfl
theorem wFL_L_63 : Cond.fieldLink RL 63 RX5 "q" "I" ∈ wB := wIn 477 (by decide +kernel) rfl
theorem wFL_X5_7 : Cond.fieldLink RX5 7 RX5 "isOn" "Z" ∈ wB := wIn 478 (by decide +kernel) rfl
theorem wFL_X5_15 : Cond.fieldLink RX5 15 RX5 "pins" "[[I" ∈ wB := wIn 479 (by decide +kernel) rfl
theorem wFL_L_70 : Cond.fieldLink RL 70 RX5 "pins" "[[I" ∈ wB := wIn 480 (by decide +kernel) rfl
theorem wFL_X5_21 : Cond.fieldLink RX5 21 RX5 "cams" "[[[I" ∈ wB := wIn 481 (by decide +kernel) rfl
theorem wFL_L_77 : Cond.fieldLink RL 77 RX5 "cams" "[[[I" ∈ wB := wIn 482 (by decide +kernel) rfl
theorem wFL_X5_24 : Cond.fieldLink RX5 24 RX5 "notes" "[I" ∈ wB := wIn 483 (by decide +kernel) rfl
theorem wFL_L_88 : Cond.fieldLink RL 88 RX5 "notes" "[I" ∈ wB := wIn 484 (by decide +kernel) rfl
theorem wML_L_66 : Cond.methodLink RL 66 yX4_addBird ∈ wB := wIn 510 (by decide +kernel) rfl
theorem wIM_X4_addBird : Cond.instanceMethod yX4_addBird ∈ wB := wIn 511 (by decide +kernel) rfl
theorem wSE_X4_X4_addBird : Cond.selects RX4 yX4_addBird yX4_addBird ∈ wB := wIn 512 (by decide +kernel) rfl
theorem wCO_X4_addBird : Cond.code yX4_addBird cX4_addBird 8 (some .int) ∈ wB := wIn 513 (by decide +kernel) rfl
theorem wSR_108 : Cond.stringRef RX4 108 "weight is not 0 to 20" ∈ lw_tbl := List.mem_of_getElem? (i := 514) (by decide +kernel)
theorem wSR_110 : Cond.stringRef RX4 110 "places is not 8 to 96" ∈ lw_tbl := List.mem_of_getElem? (i := 515) (by decide +kernel)
theorem wSR_112 : Cond.stringRef RX4 112 "p or q is not 1 to 12" ∈ lw_tbl := List.mem_of_getElem? (i := 516) (by decide +kernel)
theorem wSR_117 : Cond.stringRef RX4 117 "there are 8 birds" ∈ lw_tbl := List.mem_of_getElem? (i := 517) (by decide +kernel)
theorem wIS_X0 : Cond.instantiable RX0 15 ∈ wB := wIn 518 (by decide +kernel) rfl
theorem wML_X4_119 : Cond.methodLink RX4 119 yX0_init ∈ wB := wIn 519 (by decide +kernel) rfl
theorem wIM_X0_init : Cond.instanceMethod yX0_init ∈ wB := wIn 520 (by decide +kernel) rfl
theorem wCO_X0_init : Cond.code yX0_init cX0_init 9 none ∈ wB := wIn 521 (by decide +kernel) rfl
theorem wML_X0_3 : Cond.methodLink RX0 3 objectInit ∈ wB := wIn 522 (by decide +kernel) rfl
theorem wCL_X0_18 : Cond.classLink RX0 18 RX1 ∈ wB := wIn 523 (by decide +kernel) rfl
theorem warrayOver___object__BirdParlour_Cam__ : Cond.arrayOver (.object "BirdParlour$Cam") ∈ lw_tbl := List.mem_of_getElem? (i := 524) (by decide +kernel)
theorem wIS_X1 : Cond.instantiable RX1 3 ∈ wB := wIn 525 (by decide +kernel) rfl
theorem wMN_X0_48 : Cond.methodLinkNest RX0 48 yX1_init "BirdParlour" ∈ lw_tbl := List.mem_of_getElem? (i := 526) (by decide +kernel)
theorem wIM_X1_init : Cond.instanceMethod yX1_init ∈ wB := wIn 527 (by decide +kernel) rfl
theorem wCO_X1_init : Cond.code yX1_init cX1_init 1 none ∈ wB := wIn 528 (by decide +kernel) rfl
theorem wML_X1_3 : Cond.methodLink RX1 3 objectInit ∈ wB := wIn 529 (by decide +kernel) rfl
theorem wFL_X1_9 : Cond.fieldLink RX1 9 RX1 "marks" "[I" ∈ wB := wIn 530 (by decide +kernel) rfl
theorem wFL_X1_15 : Cond.fieldLink RX1 15 RX1 "lifts" "[I" ∈ wB := wIn 531 (by decide +kernel) rfl
theorem wFL_X0_90 : Cond.fieldLink RX0 90 RX1 "lifts" "[I" ∈ wB := wIn 532 (by decide +kernel) rfl
theorem wFL_X4_226 : Cond.fieldLink RX4 226 RX1 "lifts" "[I" ∈ wB := wIn 533 (by decide +kernel) rfl
theorem wFL_X1_26 : Cond.fieldLink RX1 26 RX1 "points" "I" ∈ wB := wIn 534 (by decide +kernel) rfl
theorem wFL_X4_188 : Cond.fieldLink RX4 188 RX1 "points" "I" ∈ wB := wIn 535 (by decide +kernel) rfl
theorem wFL_X0_24 : Cond.fieldLink RX0 24 RX0 "spring" "I" ∈ wB := wIn 543 (by decide +kernel) rfl
theorem wFL_X4_131 : Cond.fieldLink RX4 131 RX0 "spring" "I" ∈ wB := wIn 544 (by decide +kernel) rfl
theorem wFL_X0_28 : Cond.fieldLink RX0 28 RX0 "weight" "I" ∈ wB := wIn 545 (by decide +kernel) rfl
theorem wFL_X4_203 : Cond.fieldLink RX4 203 RX0 "weight" "I" ∈ wB := wIn 546 (by decide +kernel) rfl
theorem wFL_X0_31 : Cond.fieldLink RX0 31 RX0 "places" "I" ∈ wB := wIn 547 (by decide +kernel) rfl
theorem wFL_X4_193 : Cond.fieldLink RX4 193 RX0 "places" "I" ∈ wB := wIn 548 (by decide +kernel) rfl
theorem wFL_X0_34 : Cond.fieldLink RX0 34 RX0 "p" "I" ∈ wB := wIn 549 (by decide +kernel) rfl
theorem wFL_X4_206 : Cond.fieldLink RX4 206 RX0 "p" "I" ∈ wB := wIn 550 (by decide +kernel) rfl
theorem wFL_X0_37 : Cond.fieldLink RX0 37 RX0 "q" "I" ∈ wB := wIn 551 (by decide +kernel) rfl
theorem wFL_X4_209 : Cond.fieldLink RX4 209 RX0 "q" "I" ∈ wB := wIn 552 (by decide +kernel) rfl
theorem wFL_X0_9 : Cond.fieldLink RX0 9 RX0 "levers" "[I" ∈ wB := wIn 553 (by decide +kernel) rfl
theorem wFL_X4_331 : Cond.fieldLink RX4 331 RX0 "levers" "[I" ∈ wB := wIn 554 (by decide +kernel) rfl
theorem wFL_X0_15 : Cond.fieldLink RX0 15 RX0 "notes" "[I" ∈ wB := wIn 555 (by decide +kernel) rfl
theorem wFL_X4_161 : Cond.fieldLink RX4 161 RX0 "notes" "[I" ∈ wB := wIn 556 (by decide +kernel) rfl
theorem wFL_X0_20 : Cond.fieldLink RX0 20 RX0 "cams" "[LBirdParlour$Cam;" ∈ wB := wIn 557 (by decide +kernel) rfl
theorem wFL_X4_150 : Cond.fieldLink RX4 150 RX0 "pins" "I" ∈ wB := wIn 558 (by decide +kernel) rfl
theorem wFL_X0_75 : Cond.fieldLink RX0 75 RX0 "pins" "I" ∈ wB := wIn 559 (by decide +kernel) rfl
theorem wFL_X0_40 : Cond.fieldLink RX0 40 RX0 "isEngaged" "Z" ∈ wB := wIn 560 (by decide +kernel) rfl
theorem wFL_X4_128 : Cond.fieldLink RX4 128 RX0 "isEngaged" "Z" ∈ wB := wIn 561 (by decide +kernel) rfl
theorem wFL_X0_44 : Cond.fieldLink RX0 44 RX0 "shaftAtStart" "J" ∈ wB := wIn 562 (by decide +kernel) rfl
theorem wFL_X0_49 : Cond.fieldLink RX0 49 RX0 "gone" "J" ∈ wB := wIn 563 (by decide +kernel) rfl
theorem wFL_X4_216 : Cond.fieldLink RX4 216 RX0 "gone" "J" ∈ wB := wIn 564 (by decide +kernel) rfl
theorem wFL_X4_219 : Cond.fieldLink RX4 219 RX0 "sounded" "I" ∈ wB := wIn 565 (by decide +kernel) rfl
theorem wML_L_73 : Cond.methodLink RL 73 yX4_pin ∈ wB := wIn 597 (by decide +kernel) rfl
theorem wIM_X4_pin : Cond.instanceMethod yX4_pin ∈ wB := wIn 598 (by decide +kernel) rfl
theorem wSE_X4_X4_pin : Cond.selects RX4 yX4_pin yX4_pin ∈ wB := wIn 599 (by decide +kernel) rfl
theorem wCO_X4_pin : Cond.code yX4_pin cX4_pin 5 (some .int) ∈ wB := wIn 600 (by decide +kernel) rfl
theorem wSR_142 : Cond.stringRef RX4 142 "place is not on the barrel" ∈ lw_tbl := List.mem_of_getElem? (i := 601) (by decide +kernel)
theorem wSR_144 : Cond.stringRef RX4 144 "lever is not 0 to 5" ∈ lw_tbl := List.mem_of_getElem? (i := 602) (by decide +kernel)
theorem wSR_153 : Cond.stringRef RX4 153 "there are 24 pins" ∈ lw_tbl := List.mem_of_getElem? (i := 603) (by decide +kernel)
theorem wML_X4_155 : Cond.methodLink RX4 155 yX0_turnPin ∈ wB := wIn 604 (by decide +kernel) rfl
theorem wIM_X0_turnPin : Cond.instanceMethod yX0_turnPin ∈ wB := wIn 605 (by decide +kernel) rfl
theorem wSE_X0_X0_turnPin : Cond.selects RX0 yX0_turnPin yX0_turnPin ∈ wB := wIn 606 (by decide +kernel) rfl
theorem wCO_X0_turnPin : Cond.code yX0_turnPin cX0_turnPin 3 none ∈ wB := wIn 607 (by decide +kernel) rfl
theorem wML_X0_78 : Cond.methodLink RX0 78 yX0_hasPin ∈ wB := wIn 608 (by decide +kernel) rfl
theorem wMN_X0_82 : Cond.methodLinkNest RX0 82 yX4_put "BirdParlour" ∈ lw_tbl := List.mem_of_getElem? (i := 609) (by decide +kernel)
theorem wML_L_81 : Cond.methodLink RL 81 yX4_point ∈ wB := wIn 610 (by decide +kernel) rfl
theorem wIM_X4_point : Cond.instanceMethod yX4_point ∈ wB := wIn 611 (by decide +kernel) rfl
theorem wSE_X4_X4_point : Cond.selects RX4 yX4_point yX4_point ∈ wB := wIn 612 (by decide +kernel) rfl
theorem wCO_X4_point : Cond.code yX4_point cX4_point 8 (some .int) ∈ wB := wIn 613 (by decide +kernel) rfl
theorem wSR_179 : Cond.stringRef RX4 179 "lift is not -1 to 100" ∈ lw_tbl := List.mem_of_getElem? (i := 614) (by decide +kernel)
theorem wML_X4_181 : Cond.methodLink RX4 181 yX1_hasPoint ∈ wB := wIn 615 (by decide +kernel) rfl
theorem wIM_X1_hasPoint : Cond.instanceMethod yX1_hasPoint ∈ wB := wIn 616 (by decide +kernel) rfl
theorem wSE_X1_X1_hasPoint : Cond.selects RX1 yX1_hasPoint yX1_hasPoint ∈ wB := wIn 617 (by decide +kernel) rfl
theorem wCO_X1_hasPoint : Cond.code yX1_hasPoint cX1_hasPoint 2 (some .boolean) ∈ wB := wIn 618 (by decide +kernel) rfl
theorem wMN_X1_18 : Cond.methodLinkNest RX1 18 yX4_at "BirdParlour" ∈ lw_tbl := List.mem_of_getElem? (i := 619) (by decide +kernel)
theorem wSR_186 : Cond.stringRef RX4 186 "there is no point to take away" ∈ lw_tbl := List.mem_of_getElem? (i := 620) (by decide +kernel)
theorem wSR_191 : Cond.stringRef RX4 191 "the cam has 8 points" ∈ lw_tbl := List.mem_of_getElem? (i := 621) (by decide +kernel)
theorem wML_X4_196 : Cond.methodLink RX4 196 yX1_takePoint ∈ wB := wIn 622 (by decide +kernel) rfl
theorem wIM_X1_takePoint : Cond.instanceMethod yX1_takePoint ∈ wB := wIn 623 (by decide +kernel) rfl
theorem wSE_X1_X1_takePoint : Cond.selects RX1 yX1_takePoint yX1_takePoint ∈ wB := wIn 624 (by decide +kernel) rfl
theorem wCO_X1_takePoint : Cond.code yX1_takePoint cX1_takePoint 3 none ∈ wB := wIn 625 (by decide +kernel) rfl
theorem wML_X1_22 : Cond.methodLink RX1 22 yX1_hasPoint ∈ wB := wIn 626 (by decide +kernel) rfl
theorem wMN_X1_30 : Cond.methodLinkNest RX1 30 yX4_put "BirdParlour" ∈ lw_tbl := List.mem_of_getElem? (i := 627) (by decide +kernel)
theorem wML_X1_34 : Cond.methodLink RX1 34 yX1_draw ∈ wB := wIn 628 (by decide +kernel) rfl
theorem wIM_X1_draw : Cond.instanceMethod yX1_draw ∈ wB := wIn 629 (by decide +kernel) rfl
theorem wSE_X1_X1_draw : Cond.selects RX1 yX1_draw yX1_draw ∈ wB := wIn 630 (by decide +kernel) rfl
theorem wCO_X1_draw : Cond.code yX1_draw cX1_draw 3 none ∈ wB := wIn 631 (by decide +kernel) rfl
theorem wML_X1_38 : Cond.methodLink RX1 38 yX1_drawBehind ∈ wB := wIn 632 (by decide +kernel) rfl
theorem wIM_X1_drawBehind : Cond.instanceMethod yX1_drawBehind ∈ wB := wIn 633 (by decide +kernel) rfl
theorem wSE_X1_X1_drawBehind : Cond.selects RX1 yX1_drawBehind yX1_drawBehind ∈ wB := wIn 634 (by decide +kernel) rfl
theorem wCO_X1_drawBehind : Cond.code yX1_drawBehind cX1_drawBehind 7 none ∈ wB := wIn 635 (by decide +kernel) rfl
theorem wMN_X1_42 : Cond.methodLinkNest RX1 42 yX4_remainder "BirdParlour" ∈ lw_tbl := List.mem_of_getElem? (i := 636) (by decide +kernel)
theorem wST_X4_remainder : Cond.static yX4_remainder ∈ wB := wIn 637 (by decide +kernel) rfl
theorem wCO_X4_remainder : Cond.code yX4_remainder cX4_remainder 2 (some .int) ∈ wB := wIn 638 (by decide +kernel) rfl
theorem wML_X1_46 : Cond.methodLink RX1 46 yJ9_floorDiv_7cf53 ∈ wB := wIn 639 (by decide +kernel) rfl
theorem wST_J9_floorDiv_7cf53 : Cond.static yJ9_floorDiv_7cf53 ∈ wB := wIn 640 (by decide +kernel) rfl
theorem wCO_J9_floorDiv_7cf53 : Cond.code yJ9_floorDiv_7cf53 cJ9_floorDiv_7cf53 3 (some .int) ∈ wB := wIn 641 (by decide +kernel) rfl
theorem wML_X4_199 : Cond.methodLink RX4 199 yX1_layPoint ∈ wB := wIn 642 (by decide +kernel) rfl
theorem wIM_X1_layPoint : Cond.instanceMethod yX1_layPoint ∈ wB := wIn 643 (by decide +kernel) rfl
theorem wSE_X1_X1_layPoint : Cond.selects RX1 yX1_layPoint yX1_layPoint ∈ wB := wIn 644 (by decide +kernel) rfl
theorem wCO_X1_layPoint : Cond.code yX1_layPoint cX1_layPoint 4 none ∈ wB := wIn 645 (by decide +kernel) rfl
theorem wML_L_85 : Cond.methodLink RL 85 yX4_tune ∈ wB := wIn 646 (by decide +kernel) rfl
theorem wIM_X4_tune : Cond.instanceMethod yX4_tune ∈ wB := wIn 647 (by decide +kernel) rfl
theorem wSE_X4_X4_tune : Cond.selects RX4 yX4_tune yX4_tune ∈ wB := wIn 648 (by decide +kernel) rfl
theorem wCO_X4_tune : Cond.code yX4_tune cX4_tune 6 (some .int) ∈ wB := wIn 649 (by decide +kernel) rfl
theorem wSR_159 : Cond.stringRef RX4 159 "note is not 0 to 87" ∈ lw_tbl := List.mem_of_getElem? (i := 650) (by decide +kernel)
theorem wML_X4_169 : Cond.methodLink RX4 169 yX4_put ∈ wB := wIn 651 (by decide +kernel) rfl
theorem wML_L_123 : Cond.methodLink RL 123 Lib.Math.max.name ∈ wB := wIn 652 (by decide +kernel) rfl
theorem wML_L_110 : Cond.methodLink RL 110 Lib.Math.min.name ∈ wB := wIn 653 (by decide +kernel) rfl
theorem wconstant_L_109 : Cond.constant RL 109 200000 ∈ wB := wIn 654 (by decide +kernel) rfl
theorem wconstantLong_L_118 : Cond.constantLong RL 118 1000 ∈ wB := wIn 655 (by decide +kernel) rfl
theorem warrayClass__long : Cond.arrayClass .long ∈ wB := wIn 656 (by decide +kernel) rfl
theorem inX0_B : ∀ w ∈ wsX00, w ∈ wB := by
  intro w hw
  obtain ⟨k, hk, rfl⟩ := List.mem_map.mp hw
  have hk := List.mem_range.mp hk
  match k, hk with
  | 0, _ => exact wIn 566 (by decide +kernel) rfl
  | 1, _ => exact wIn 568 (by decide +kernel) rfl
  | 2, _ => exact wIn 570 (by decide +kernel) rfl
  | 3, _ => exact wIn 572 (by decide +kernel) rfl
  | 4, _ => exact wIn 574 (by decide +kernel) rfl
  | 5, _ => exact wIn 576 (by decide +kernel) rfl
  | 6, _ => exact wIn 578 (by decide +kernel) rfl
  | 7, _ => exact wIn 580 (by decide +kernel) rfl
  | 8, _ => exact wIn 582 (by decide +kernel) rfl
  | 9, _ => exact wIn 584 (by decide +kernel) rfl
  | 10, _ => exact wIn 586 (by decide +kernel) rfl
  | 11, _ => exact wIn 588 (by decide +kernel) rfl
  | 12, _ => exact wIn 590 (by decide +kernel) rfl
  | 13, _ => exact wIn 592 (by decide +kernel) rfl
  | 14, _ => exact wIn 594 (by decide +kernel) rfl
  | k + 15, hk => exact absurd hk (by omega)
theorem inX1_B : ∀ w ∈ wsX10, w ∈ wB := by
  intro w hw
  obtain ⟨k, hk, rfl⟩ := List.mem_map.mp hw
  have hk := List.mem_range.mp hk
  match k, hk with
  | 0, _ => exact wIn 536 (by decide +kernel) rfl
  | 1, _ => exact wIn 538 (by decide +kernel) rfl
  | 2, _ => exact wIn 540 (by decide +kernel) rfl
  | k + 3, hk => exact absurd hk (by omega)
theorem inX2_B : ∀ w ∈ wsX20, w ∈ wB := by
  intro w hw
  obtain ⟨k, hk, rfl⟩ := List.mem_map.mp hw
  have hk := List.mem_range.mp hk
  match k, hk with
  | 0, _ => exact wIn 51 (by decide +kernel) rfl
  | 1, _ => exact wIn 53 (by decide +kernel) rfl
  | 2, _ => exact wIn 55 (by decide +kernel) rfl
  | 3, _ => exact wIn 57 (by decide +kernel) rfl
  | 4, _ => exact wIn 59 (by decide +kernel) rfl
  | k + 5, hk => exact absurd hk (by omega)
theorem inX3_B : ∀ w ∈ wsX30, w ∈ wB := by
  intro w hw
  obtain ⟨k, hk, rfl⟩ := List.mem_map.mp hw
  have hk := List.mem_range.mp hk
  match k, hk with
  | 0, _ => exact wIn 439 (by decide +kernel) rfl
  | 1, _ => exact wIn 441 (by decide +kernel) rfl
  | 2, _ => exact wIn 443 (by decide +kernel) rfl
  | 3, _ => exact wIn 445 (by decide +kernel) rfl
  | 4, _ => exact wIn 447 (by decide +kernel) rfl
  | 5, _ => exact wIn 449 (by decide +kernel) rfl
  | 6, _ => exact wIn 451 (by decide +kernel) rfl
  | 7, _ => exact wIn 453 (by decide +kernel) rfl
  | k + 8, hk => exact absurd hk (by omega)
theorem inX4_B : ∀ w ∈ wsX40, w ∈ wB := by
  intro w hw
  obtain ⟨k, hk, rfl⟩ := List.mem_map.mp hw
  have hk := List.mem_range.mp hk
  match k, hk with
  | 0, _ => exact wIn 70 (by decide +kernel) rfl
  | 1, _ => exact wIn 72 (by decide +kernel) rfl
  | 2, _ => exact wIn 74 (by decide +kernel) rfl
  | 3, _ => exact wIn 76 (by decide +kernel) rfl
  | 4, _ => exact wIn 78 (by decide +kernel) rfl
  | 5, _ => exact wIn 80 (by decide +kernel) rfl
  | 6, _ => exact wIn 82 (by decide +kernel) rfl
  | k + 7, hk => exact absurd hk (by omega)
theorem inX5_B : ∀ w ∈ wsX50, w ∈ wB := by
  intro w hw
  obtain ⟨k, hk, rfl⟩ := List.mem_map.mp hw
  have hk := List.mem_range.mp hk
  match k, hk with
  | 0, _ => exact wIn 485 (by decide +kernel) rfl
  | 1, _ => exact wIn 487 (by decide +kernel) rfl
  | 2, _ => exact wIn 489 (by decide +kernel) rfl
  | 3, _ => exact wIn 491 (by decide +kernel) rfl
  | 4, _ => exact wIn 493 (by decide +kernel) rfl
  | 5, _ => exact wIn 495 (by decide +kernel) rfl
  | 6, _ => exact wIn 497 (by decide +kernel) rfl
  | 7, _ => exact wIn 499 (by decide +kernel) rfl
  | 8, _ => exact wIn 501 (by decide +kernel) rfl
  | 9, _ => exact wIn 503 (by decide +kernel) rfl
  | 10, _ => exact wIn 505 (by decide +kernel) rfl
  | 11, _ => exact wIn 507 (by decide +kernel) rfl
  | k + 12, hk => exact absurd hk (by omega)
theorem inX6_B : ∀ w ∈ wsX60, w ∈ wB := by
  intro w hw
  obtain ⟨k, hk, rfl⟩ := List.mem_map.mp hw
  have hk := List.mem_range.mp hk
  match k, hk with
  | 0, _ => exact wIn 390 (by decide +kernel) rfl
  | 1, _ => exact wIn 392 (by decide +kernel) rfl
  | 2, _ => exact wIn 394 (by decide +kernel) rfl
  | 3, _ => exact wIn 396 (by decide +kernel) rfl
  | 4, _ => exact wIn 398 (by decide +kernel) rfl
  | 5, _ => exact wIn 400 (by decide +kernel) rfl
  | k + 6, hk => exact absurd hk (by omega)
theorem inX7_B : ∀ w ∈ wsX70, w ∈ wB := by
  intro w hw
  obtain ⟨k, hk, rfl⟩ := List.mem_map.mp hw
  have hk := List.mem_range.mp hk
  match k, hk with
  | k + 0, hk => exact absurd hk (by omega)
/-- a method's words: its own code, and all -/
noncomputable def ws_ (y : MethodName) (cc : ByteArray) (n : Nat) (r : Option FieldType) : List Cond := Cond.code y cc n r :: wB
noncomputable def wsW (y : MethodName) (cc : ByteArray) (n : Nat) (r : Option FieldType) (hh : List (Nat × Nat × Nat × Nat)) : List Cond := Cond.codeWith y cc n r hh :: wB
theorem ws_good {y : MethodName} {cc : ByteArray} {n : Nat} {r : Option FieldType} (h : Cond.code y cc n r ∈ wB) : GoodIn wB (ws_ y cc n r) := fun w hw => by
  rcases List.mem_cons.mp hw with rfl | h1
  · exact wB_good _ h
  · exact wB_good _ h1
theorem wsW_good {y : MethodName} {cc : ByteArray} {n : Nat} {r : Option FieldType} {hh : List (Nat × Nat × Nat × Nat)} (h : Cond.codeWith y cc n r hh ∈ wB) : GoodIn wB (wsW y cc n r hh) := fun w hw => by
  rcases List.mem_cons.mp hw with rfl | h1
  · exact wB_good _ h
  · exact wB_good _ h1
theorem gV {own C : String} {idx : Nat} {y : MethodName} {ws : List Cond} (hw : GoodIn wB ws) (h1 : Cond.methodLink own idx y ∈ wB) (h2 : Cond.instanceMethod y ∈ wB) (h3 : Cond.selects C y y ∈ wB) (h4 : Cond.initialized C ∈ wB) : GoodIn wB (wsV own idx C y ws) := fun w h => by
  rcases List.mem_append.mp h with h | h
  · simp only [List.mem_cons, List.not_mem_nil, or_false] at h
    rcases h with rfl | rfl | rfl | rfl
    · exact wB_good _ h1
    · exact wB_good _ h2
    · exact wB_good _ h3
    · exact wB_good _ h4
  · exact hw w h
theorem gS {own : String} {idx : Nat} {y : MethodName} {ws : List Cond} (hw : GoodIn wB ws) (h1 : Cond.methodLink own idx y ∈ wB) (h2 : Cond.static y ∈ wB) (h3 : Cond.initialized y.cls ∈ wB) : GoodIn wB (va_wsS own idx y ws) := fun w h => by
  rcases List.mem_append.mp h with h | h
  · simp only [List.mem_cons, List.not_mem_nil, or_false] at h
    rcases h with rfl | rfl | rfl
    · exact wB_good _ h1
    · exact wB_good _ h2
    · exact wB_good _ h3
  · exact hw w h
