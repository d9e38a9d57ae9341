theorem wd_0 : Cond.selects "ThinExtents" yX4_writeHead yX4_writeHead ∈ tb := tbm 0 (by decide +kernel) rfl
theorem wd_1 : Cond.selects "ThinExtents" yX4_serveQueue yX4_serveQueue ∈ tb := tbm 1 (by decide +kernel) rfl
theorem wd_2 : Cond.selects "ThinExtents" yX4_serveFirst yX4_serveFirst ∈ tb := tbm 2 (by decide +kernel) rfl
theorem wd_3 : Cond.selects "ThinExtents" yX4_isOver yX4_isOver ∈ tb := tbm 3 (by decide +kernel) rfl
theorem wd_4 : Cond.selects "ThinExtents" yX4_needsExtent yX4_needsExtent ∈ tb := tbm 4 (by decide +kernel) rfl
theorem wd_5 : Cond.selects "ThinExtents" yX4_perform yX4_perform ∈ tb := tbm 5 (by decide +kernel) rfl
theorem wd_6 : Cond.selects "ThinExtents" yX4_wordOf yX4_wordOf ∈ tb := tbm 6 (by decide +kernel) rfl
theorem wd_7 : Cond.selects "ThinExtents$Queue" yX1_put yX1_put ∈ tb := tbm 7 (by decide +kernel) rfl
theorem wd_8 : Cond.selects "ThinExtents" yX4_numbered yX4_numbered ∈ tb := tbm 8 (by decide +kernel) rfl
theorem wd_10 : Cond.selects "ThinExtents" yX4_requireSize yX4_requireSize ∈ tb := tbm 10 (by decide +kernel) rfl
theorem wd_11 : Cond.selects "ThinExtents" yX4_existing yX4_existing ∈ tb := tbm 11 (by decide +kernel) rfl
theorem wd_12 : Cond.selects "ThinExtents" yX4_requireNoneWaits yX4_requireNoneWaits ∈ tb := tbm 12 (by decide +kernel) rfl
theorem wd_13 : Cond.selects "ThinExtents" yX4_requireWord yX4_requireWord ∈ tb := tbm 13 (by decide +kernel) rfl
theorem wd_14 : Cond.selects "ThinExtents" yX4_enqueue yX4_enqueue ∈ tb := tbm 14 (by decide +kernel) rfl
theorem wd_15 : Cond.selects "ThinExtents" yX4_writeNeeding yX4_writeNeeding ∈ tb := tbm 15 (by decide +kernel) rfl
theorem wd_16 : Cond.selects "ThinExtents" yX4_requireNotNegative yX4_requireNotNegative ∈ tb := tbm 16 (by decide +kernel) rfl
theorem wd_17 : Cond.selects "ThinExtents" yX4_stateOf yX4_stateOf ∈ tb := tbm 17 (by decide +kernel) rfl
theorem wd_18 : Cond.selects "ThinExtents" yX4_countShared yX4_countShared ∈ tb := tbm 18 (by decide +kernel) rfl
theorem wd_19 : Cond.selects "ThinExtents" yX4_countRuns yX4_countRuns ∈ tb := tbm 19 (by decide +kernel) rfl
theorem wd_20 : Cond.selects "ThinExtents" yX4_sortOf yX4_sortOf ∈ tb := tbm 20 (by decide +kernel) rfl
theorem wd_21 : Cond.selects "ThinExtents" yX4_countSort yX4_countSort ∈ tb := tbm 21 (by decide +kernel) rfl
theorem wd_22 : Cond.selects "ThinExtents" yX4_requireExtent yX4_requireExtent ∈ tb := tbm 22 (by decide +kernel) rfl
theorem wd_23 : Cond.selects "ThinExtentsModel" yX5_isVolume yX5_isVolume ∈ tb := tbm 23 (by decide +kernel) rfl
theorem wd_24 : Cond.selects "ThinExtentsModel" yX5_waits yX5_waits ∈ tb := tbm 24 (by decide +kernel) rfl
theorem wd_25 : Cond.selects "ThinExtentsModel" yX5_enqueue yX5_enqueue ∈ tb := tbm 25 (by decide +kernel) rfl
theorem wd_26 : Cond.selects "ThinExtentsModel" yX5_isOver yX5_isOver ∈ tb := tbm 26 (by decide +kernel) rfl
theorem wd_27 : Cond.selects "ThinExtentsModel" yX5_mapped yX5_mapped ∈ tb := tbm 27 (by decide +kernel) rfl
theorem wd_28 : Cond.selects "ThinExtentsModel" yX5_needs yX5_needs ∈ tb := tbm 28 (by decide +kernel) rfl
theorem wd_29 : Cond.selects "ThinExtentsModel" yX5_isSole yX5_isSole ∈ tb := tbm 29 (by decide +kernel) rfl
theorem wd_30 : Cond.selects "ThinExtentsModel" yX5_usersOf yX5_usersOf ∈ tb := tbm 30 (by decide +kernel) rfl
theorem wd_31 : Cond.selects "ThinExtentsModel" yX5_perform yX5_perform ∈ tb := tbm 31 (by decide +kernel) rfl
theorem wd_32 : Cond.selects "ThinExtentsModel" yX5_take yX5_take ∈ tb := tbm 32 (by decide +kernel) rfl
theorem wd_33 : Cond.selects "ThinExtentsModel" yX5_isFree yX5_isFree ∈ tb := tbm 33 (by decide +kernel) rfl
theorem wd_34 : Cond.selects "ThinExtentsModel" yX5_wordOf yX5_wordOf ∈ tb := tbm 34 (by decide +kernel) rfl
theorem wd_35 : Cond.selects "ThinExtentsModel" yX5_freeMany yX5_freeMany ∈ tb := tbm 35 (by decide +kernel) rfl
theorem wd_36 : Cond.selects "ThinExtentsModel" yX5_volumes yX5_volumes ∈ tb := tbm 36 (by decide +kernel) rfl
theorem wd_37 : Cond.selects "ThinExtentsModel" yX5_copyVolume yX5_copyVolume ∈ tb := tbm 37 (by decide +kernel) rfl
theorem wd_38 : Cond.selects "ThinExtentsModel" yX5_unqueue yX5_unqueue ∈ tb := tbm 38 (by decide +kernel) rfl
theorem wd_39 : Cond.selects "ThinExtentsModel" yX5_drain yX5_drain ∈ tb := tbm 39 (by decide +kernel) rfl
theorem wd_40 : Cond.selects "ThinExtentsModel" yX5_waitsIn yX5_waitsIn ∈ tb := tbm 40 (by decide +kernel) rfl
theorem wd_41 : Cond.selects "ThinExtentsModel" yX5_unmap yX5_unmap ∈ tb := tbm 41 (by decide +kernel) rfl
theorem wd_42 : Cond.selects "ThinExtentsModel" yX5_copy yX5_copy ∈ tb := tbm 42 (by decide +kernel) rfl
theorem wd_43 : Cond.selects "ThinExtentsModel" yX5_clearState yX5_clearState ∈ tb := tbm 43 (by decide +kernel) rfl
theorem wd_44 : Cond.selects "ThinExtentsModel" yX5_sortAt yX5_sortAt ∈ tb := tbm 44 (by decide +kernel) rfl
theorem wd_46 : Cond.initialized "ThinExtents" ∈ tb := tbm 46 (by decide +kernel) rfl
theorem wd_47 : Cond.initialized "ThinExtents$State" ∈ tb := tbm 47 (by decide +kernel) rfl
theorem wd_48 : Cond.initialized "ThinExtents$Volume" ∈ tb := tbm 48 (by decide +kernel) rfl
theorem wd_49 : Cond.initialized "java/util/Arrays" ∈ tb := tbm 49 (by decide +kernel) rfl
theorem wd_50 : Cond.initialized "ThinExtents$Pool" ∈ tb := tbm 50 (by decide +kernel) rfl
theorem wd_51 : Cond.initialized "ThinExtents$Queue" ∈ tb := tbm 51 (by decide +kernel) rfl
theorem wd_52 : Cond.initialized "ThinExtentsModel" ∈ tb := tbm 52 (by decide +kernel) rfl
theorem wd_56 : Cond.initialized "java/lang/IndexOutOfBoundsException" ∈ tb := tbm 56 (by decide +kernel) rfl
theorem wd_57 : Cond.initialized "java/lang/IllegalArgumentException" ∈ tb := tbm 57 (by decide +kernel) rfl
theorem wd_58 : Cond.initialized "java/lang/IllegalStateException" ∈ tb := tbm 58 (by decide +kernel) rfl
theorem wd_81 : Cond.methodLink "ThinExtents$Volume" 15 yJ7_fill_53178 ∈ tb := tbm 81 (by decide +kernel) rfl
theorem wd_82 : Cond.static yJ7_fill_53178 ∈ tb := tbm 82 (by decide +kernel) rfl
theorem wd_83 : Cond.code yJ7_fill_53178 prog_16_method_103_code 4 (Option.none : Option Jvm.ClassFile.FieldType) ∈ tb := tbm 83 (by decide +kernel) rfl
theorem wd_84 : Cond.fieldLink "ThinExtents" 50 "ThinExtents$Volume" "there" "Z" ∈ tb := tbm 84 (by decide +kernel) rfl
theorem wd_85 : Cond.fieldLink "ThinExtents$State" 26 "ThinExtents$Volume" "there" "Z" ∈ tb := tbm 85 (by decide +kernel) rfl
theorem wd_86 : Cond.fieldLink "ThinExtents$Volume" 28 "ThinExtents$Volume" "there" "Z" ∈ tb := tbm 86 (by decide +kernel) rfl
theorem wd_87 : Cond.fieldLink "ThinExtents" 77 "ThinExtents$Volume" "backed" "Z" ∈ tb := tbm 87 (by decide +kernel) rfl
theorem wd_88 : Cond.fieldLink "ThinExtents$State" 34 "ThinExtents$Volume" "backed" "Z" ∈ tb := tbm 88 (by decide +kernel) rfl
theorem wd_89 : Cond.fieldLink "ThinExtents$Volume" 32 "ThinExtents$Volume" "backed" "Z" ∈ tb := tbm 89 (by decide +kernel) rfl
theorem wd_90 : Cond.fieldLink "ThinExtents" 74 "ThinExtents$Volume" "size" "I" ∈ tb := tbm 90 (by decide +kernel) rfl
theorem wd_91 : Cond.fieldLink "ThinExtents$State" 30 "ThinExtents$Volume" "size" "I" ∈ tb := tbm 91 (by decide +kernel) rfl
theorem wd_92 : Cond.fieldLink "ThinExtents$Volume" 35 "ThinExtents$Volume" "size" "I" ∈ tb := tbm 92 (by decide +kernel) rfl
theorem wd_93 : Cond.fieldLink "ThinExtents$Volume" 21 "ThinExtents$Volume" "limit" "I" ∈ tb := tbm 93 (by decide +kernel) rfl
theorem wd_94 : Cond.fieldLink "ThinExtents" 80 "ThinExtents$Volume" "limit" "I" ∈ tb := tbm 94 (by decide +kernel) rfl
theorem wd_95 : Cond.fieldLink "ThinExtents$State" 37 "ThinExtents$Volume" "limit" "I" ∈ tb := tbm 95 (by decide +kernel) rfl
theorem wd_96 : Cond.fieldLink "ThinExtents$Volume" 25 "ThinExtents$Volume" "origin" "I" ∈ tb := tbm 96 (by decide +kernel) rfl
theorem wd_97 : Cond.fieldLink "ThinExtents$State" 40 "ThinExtents$Volume" "origin" "I" ∈ tb := tbm 97 (by decide +kernel) rfl
theorem wd_98 : Cond.fieldLink "ThinExtents" 238 "ThinExtents$Volume" "origin" "I" ∈ tb := tbm 98 (by decide +kernel) rfl
theorem wd_99 : Cond.fieldLink "ThinExtents" 91 "ThinExtents$Volume" "mapped" "I" ∈ tb := tbm 99 (by decide +kernel) rfl
theorem wd_100 : Cond.fieldLink "ThinExtents$Volume" 38 "ThinExtents$Volume" "mapped" "I" ∈ tb := tbm 100 (by decide +kernel) rfl
theorem wd_101 : Cond.fieldLink "ThinExtents$State" 53 "ThinExtents$Volume" "mapped" "I" ∈ tb := tbm 101 (by decide +kernel) rfl
theorem wd_102 : Cond.fieldLink "ThinExtents$Volume" 9 "ThinExtents$Volume" "extents" "[I" ∈ tb := tbm 102 (by decide +kernel) rfl
theorem wd_119 : Cond.fieldLink "ThinExtents$State" 63 "ThinExtents$State" "sign" "I" ∈ tb := tbm 119 (by decide +kernel) rfl
theorem wd_120 : Cond.fieldLink "ThinExtents" 177 "ThinExtents$State" "sign" "I" ∈ tb := tbm 120 (by decide +kernel) rfl
theorem wd_121 : Cond.fieldLink "ThinExtents" 67 "ThinExtents$State" "count" "I" ∈ tb := tbm 121 (by decide +kernel) rfl
theorem wd_122 : Cond.fieldLink "ThinExtents$State" 43 "ThinExtents$State" "count" "I" ∈ tb := tbm 122 (by decide +kernel) rfl
theorem wd_123 : Cond.fieldLink "ThinExtents$State" 11 "ThinExtents$State" "volumes" "[LThinExtents$Volume;" ∈ tb := tbm 123 (by decide +kernel) rfl
theorem wd_124 : Cond.fieldLink "ThinExtents$State" 18 "ThinExtents$State" "uses" "[I" ∈ tb := tbm 124 (by decide +kernel) rfl
theorem wd_140 : Cond.fieldLink "ThinExtents$Pool" 25 "ThinExtents$Pool" "size" "I" ∈ tb := tbm 140 (by decide +kernel) rfl
theorem wd_141 : Cond.fieldLink "ThinExtents" 156 "ThinExtents$Pool" "size" "I" ∈ tb := tbm 141 (by decide +kernel) rfl
theorem wd_142 : Cond.fieldLink "ThinExtents$Pool" 39 "ThinExtents$Pool" "cursor" "I" ∈ tb := tbm 142 (by decide +kernel) rfl
theorem wd_143 : Cond.fieldLink "ThinExtents" 161 "ThinExtents$Pool" "cursor" "I" ∈ tb := tbm 143 (by decide +kernel) rfl
theorem wd_144 : Cond.fieldLink "ThinExtents" 215 "ThinExtents$Pool" "alarmAt" "I" ∈ tb := tbm 144 (by decide +kernel) rfl
theorem wd_145 : Cond.fieldLink "ThinExtents" 268 "ThinExtents$Pool" "alarms" "I" ∈ tb := tbm 145 (by decide +kernel) rfl
theorem wd_146 : Cond.fieldLink "ThinExtents$Pool" 42 "ThinExtents$Pool" "taken" "I" ∈ tb := tbm 146 (by decide +kernel) rfl
theorem wd_147 : Cond.fieldLink "ThinExtents" 271 "ThinExtents$Pool" "taken" "I" ∈ tb := tbm 147 (by decide +kernel) rfl
theorem wd_148 : Cond.fieldLink "ThinExtents$Pool" 9 "ThinExtents$Pool" "live" "LThinExtents$State;" ∈ tb := tbm 148 (by decide +kernel) rfl
theorem wd_149 : Cond.fieldLink "ThinExtents$Pool" 15 "ThinExtents$Pool" "committed" "LThinExtents$State;" ∈ tb := tbm 149 (by decide +kernel) rfl
theorem wd_150 : Cond.fieldLink "ThinExtents$Pool" 18 "ThinExtents$Pool" "held" "LThinExtents$State;" ∈ tb := tbm 150 (by decide +kernel) rfl
theorem wd_151 : Cond.fieldLink "ThinExtents$Pool" 21 "ThinExtents$Pool" "words" "[I" ∈ tb := tbm 151 (by decide +kernel) rfl
theorem wd_177 : Cond.fieldLink "ThinExtents$Queue" 21 "ThinExtents$Queue" "count" "I" ∈ tb := tbm 177 (by decide +kernel) rfl
theorem wd_178 : Cond.fieldLink "ThinExtents" 267 "ThinExtents$Queue" "count" "I" ∈ tb := tbm 178 (by decide +kernel) rfl
theorem wd_179 : Cond.fieldLink "ThinExtents$Queue" 9 "ThinExtents$Queue" "volumes" "[I" ∈ tb := tbm 179 (by decide +kernel) rfl
theorem wd_180 : Cond.fieldLink "ThinExtents$Queue" 15 "ThinExtents$Queue" "words" "[I" ∈ tb := tbm 180 (by decide +kernel) rfl
theorem wd_181 : Cond.fieldLink "ThinExtents$Queue" 18 "ThinExtents$Queue" "values" "[I" ∈ tb := tbm 181 (by decide +kernel) rfl
theorem wd_191 : Cond.fieldLink "ThinExtents" 10 "ThinExtents" "live" "LThinExtents$State;" ∈ tb := tbm 191 (by decide +kernel) rfl
theorem wd_192 : Cond.fieldLink "ThinExtents" 16 "ThinExtents" "committed" "LThinExtents$State;" ∈ tb := tbm 192 (by decide +kernel) rfl
theorem wd_193 : Cond.fieldLink "ThinExtents" 19 "ThinExtents" "held" "LThinExtents$State;" ∈ tb := tbm 193 (by decide +kernel) rfl
theorem wd_194 : Cond.fieldLink "ThinExtents" 27 "ThinExtents" "pool" "LThinExtents$Pool;" ∈ tb := tbm 194 (by decide +kernel) rfl
theorem wd_195 : Cond.fieldLink "ThinExtents" 34 "ThinExtents" "queue" "LThinExtents$Queue;" ∈ tb := tbm 195 (by decide +kernel) rfl
theorem wd_196 : Cond.fieldLink "ThinExtents" 38 "ThinExtents" "backing" "[I" ∈ tb := tbm 196 (by decide +kernel) rfl
theorem wd_197 : Cond.fieldLink "ThinExtents" 200 "ThinExtents" "holding" "Z" ∈ tb := tbm 197 (by decide +kernel) rfl
theorem wd_198 : Cond.fieldLink "ThinExtents" 119 "ThinExtents" "mode" "I" ∈ tb := tbm 198 (by decide +kernel) rfl
theorem wd_199 : Cond.fieldLink "ThinExtents" 210 "ThinExtents" "patienceSet" "I" ∈ tb := tbm 199 (by decide +kernel) rfl
theorem wd_200 : Cond.fieldLink "ThinExtents" 223 "ThinExtents" "failsAt" "I" ∈ tb := tbm 200 (by decide +kernel) rfl
theorem wd_201 : Cond.fieldLink "ThinExtents" 220 "ThinExtents" "now" "I" ∈ tb := tbm 201 (by decide +kernel) rfl
theorem wd_202 : Cond.fieldLink "ThinExtents" 94 "ThinExtents" "failed" "I" ∈ tb := tbm 202 (by decide +kernel) rfl
theorem wd_203 : Cond.fieldLink "ThinExtents" 187 "ThinExtents" "commits" "I" ∈ tb := tbm 203 (by decide +kernel) rfl
theorem wd_231 : Cond.methodLink "ThinExtentsLaw" 135 yX4_mark ∈ tb := tbm 231 (by decide +kernel) rfl
theorem wd_232 : Cond.instanceMethod yX4_mark ∈ tb := tbm 232 (by decide +kernel) rfl
theorem wd_233 : Cond.selects "ThinExtents" yX4_mark yX4_mark ∈ tb := tbm 233 (by decide +kernel) rfl
theorem wd_234 : Cond.code yX4_mark prog_1_method_13_code 3 (Option.some Jvm.ClassFile.FieldType.boolean) ∈ tb := tbm 234 (by decide +kernel) rfl
theorem wd_235 : Cond.methodLink "ThinExtentsLaw" 143 yX4_commit ∈ tb := tbm 235 (by decide +kernel) rfl
theorem wd_236 : Cond.instanceMethod yX4_commit ∈ tb := tbm 236 (by decide +kernel) rfl
theorem wd_237 : Cond.selects "ThinExtents" yX4_commit yX4_commit ∈ tb := tbm 237 (by decide +kernel) rfl
theorem wd_238 : Cond.code yX4_commit prog_1_method_15_code 1 (Option.some Jvm.ClassFile.FieldType.int) ∈ tb := tbm 238 (by decide +kernel) rfl
theorem wd_239 : Cond.methodLink "ThinExtents" 184 yX4_writeHead ∈ tb := tbm 239 (by decide +kernel) rfl
theorem wd_241 : Cond.instanceMethod yX4_writeHead ∈ tb := tbm 241 (by decide +kernel) rfl
theorem wd_242 : Cond.code yX4_writeHead prog_1_method_42_code 1 (Option.none : Option Jvm.ClassFile.FieldType) ∈ tb := tbm 242 (by decide +kernel) rfl
theorem wd_243 : Cond.methodLink "ThinExtents" 192 yX2_copy ∈ tb := tbm 243 (by decide +kernel) rfl
theorem wd_244 : Cond.instanceMethod yX2_copy ∈ tb := tbm 244 (by decide +kernel) rfl
theorem wd_245 : Cond.selects "ThinExtents$State" yX2_copy yX2_copy ∈ tb := tbm 245 (by decide +kernel) rfl
theorem wd_246 : Cond.code yX2_copy prog_4_method_11_code 3 (Option.none : Option Jvm.ClassFile.FieldType) ∈ tb := tbm 246 (by decide +kernel) rfl
theorem wd_247 : Cond.methodLink "ThinExtents$State" 66 yX3_copy ∈ tb := tbm 247 (by decide +kernel) rfl
theorem wd_248 : Cond.instanceMethod yX3_copy ∈ tb := tbm 248 (by decide +kernel) rfl
theorem wd_249 : Cond.selects "ThinExtents$Volume" yX3_copy yX3_copy ∈ tb := tbm 249 (by decide +kernel) rfl
theorem wd_250 : Cond.code yX3_copy prog_5_method_5_code 2 (Option.none : Option Jvm.ClassFile.FieldType) ∈ tb := tbm 250 (by decide +kernel) rfl
theorem wd_255 : Cond.methodLink "ThinExtents" 108 yX4_serveQueue ∈ tb := tbm 255 (by decide +kernel) rfl
theorem wd_257 : Cond.instanceMethod yX4_serveQueue ∈ tb := tbm 257 (by decide +kernel) rfl
theorem wd_258 : Cond.code yX4_serveQueue prog_1_method_43_code 2 (Option.none : Option Jvm.ClassFile.FieldType) ∈ tb := tbm 258 (by decide +kernel) rfl
theorem wd_259 : Cond.methodLink "ThinExtents" 308 yX4_serveFirst ∈ tb := tbm 259 (by decide +kernel) rfl
theorem wd_261 : Cond.instanceMethod yX4_serveFirst ∈ tb := tbm 261 (by decide +kernel) rfl
theorem wd_262 : Cond.code yX4_serveFirst prog_1_method_44_code 3 (Option.some Jvm.ClassFile.FieldType.boolean) ∈ tb := tbm 262 (by decide +kernel) rfl
theorem wd_263 : Cond.methodLink "ThinExtents" 314 yX1_volumeAt ∈ tb := tbm 263 (by decide +kernel) rfl
theorem wd_264 : Cond.instanceMethod yX1_volumeAt ∈ tb := tbm 264 (by decide +kernel) rfl
theorem wd_265 : Cond.selects "ThinExtents$Queue" yX1_volumeAt yX1_volumeAt ∈ tb := tbm 265 (by decide +kernel) rfl
theorem wd_266 : Cond.code yX1_volumeAt prog_3_method_4_code 2 (Option.some Jvm.ClassFile.FieldType.int) ∈ tb := tbm 266 (by decide +kernel) rfl
theorem wd_267 : Cond.methodLink "ThinExtents" 276 yX2_find ∈ tb := tbm 267 (by decide +kernel) rfl
theorem wd_268 : Cond.instanceMethod yX2_find ∈ tb := tbm 268 (by decide +kernel) rfl
theorem wd_269 : Cond.selects "ThinExtents$State" yX2_find yX2_find ∈ tb := tbm 269 (by decide +kernel) rfl
theorem wd_270 : Cond.code yX2_find prog_4_method_3_code 3 (Option.some (Jvm.ClassFile.FieldType.object "ThinExtents$Volume")) ∈ tb := tbm 270 (by decide +kernel) rfl
theorem wd_271 : Cond.methodLink "ThinExtents$State" 22 yX2_slot ∈ tb := tbm 271 (by decide +kernel) rfl
theorem wd_272 : Cond.instanceMethod yX2_slot ∈ tb := tbm 272 (by decide +kernel) rfl
theorem wd_273 : Cond.selects "ThinExtents$State" yX2_slot yX2_slot ∈ tb := tbm 273 (by decide +kernel) rfl
theorem wd_274 : Cond.code yX2_slot prog_4_method_2_code 2 (Option.some (Jvm.ClassFile.FieldType.object "ThinExtents$Volume")) ∈ tb := tbm 274 (by decide +kernel) rfl
theorem wd_275 : Cond.methodLink "ThinExtents" 317 yX1_wordAt ∈ tb := tbm 275 (by decide +kernel) rfl
theorem wd_276 : Cond.instanceMethod yX1_wordAt ∈ tb := tbm 276 (by decide +kernel) rfl
theorem wd_277 : Cond.selects "ThinExtents$Queue" yX1_wordAt yX1_wordAt ∈ tb := tbm 277 (by decide +kernel) rfl
theorem wd_278 : Cond.code yX1_wordAt prog_3_method_5_code 2 (Option.some Jvm.ClassFile.FieldType.int) ∈ tb := tbm 278 (by decide +kernel) rfl
theorem wd_279 : Cond.methodLink "ThinExtents" 137 yX4_isOver ∈ tb := tbm 279 (by decide +kernel) rfl
theorem wd_281 : Cond.instanceMethod yX4_isOver ∈ tb := tbm 281 (by decide +kernel) rfl
theorem wd_282 : Cond.code yX4_isOver prog_1_method_37_code 3 (Option.some Jvm.ClassFile.FieldType.boolean) ∈ tb := tbm 282 (by decide +kernel) rfl
theorem wd_283 : Cond.methodLink "ThinExtents" 83 yX3_extentOf ∈ tb := tbm 283 (by decide +kernel) rfl
theorem wd_284 : Cond.instanceMethod yX3_extentOf ∈ tb := tbm 284 (by decide +kernel) rfl
theorem wd_285 : Cond.selects "ThinExtents$Volume" yX3_extentOf yX3_extentOf ∈ tb := tbm 285 (by decide +kernel) rfl
theorem wd_286 : Cond.code yX3_extentOf prog_5_method_2_code 2 (Option.some Jvm.ClassFile.FieldType.int) ∈ tb := tbm 286 (by decide +kernel) rfl
theorem wd_287 : Cond.methodLink "ThinExtents" 130 yX4_needsExtent ∈ tb := tbm 287 (by decide +kernel) rfl
theorem wd_289 : Cond.instanceMethod yX4_needsExtent ∈ tb := tbm 289 (by decide +kernel) rfl
theorem wd_290 : Cond.code yX4_needsExtent prog_1_method_36_code 3 (Option.some Jvm.ClassFile.FieldType.boolean) ∈ tb := tbm 290 (by decide +kernel) rfl
theorem wd_291 : Cond.methodLink "ThinExtents" 293 yX0_isSole ∈ tb := tbm 291 (by decide +kernel) rfl
theorem wd_292 : Cond.instanceMethod yX0_isSole ∈ tb := tbm 292 (by decide +kernel) rfl
theorem wd_293 : Cond.selects "ThinExtents$Pool" yX0_isSole yX0_isSole ∈ tb := tbm 293 (by decide +kernel) rfl
theorem wd_294 : Cond.code yX0_isSole prog_2_method_3_code 2 (Option.some Jvm.ClassFile.FieldType.boolean) ∈ tb := tbm 294 (by decide +kernel) rfl
theorem wd_295 : Cond.methodLink "ThinExtents$Pool" 29 yX2_usesOf ∈ tb := tbm 295 (by decide +kernel) rfl
theorem wd_296 : Cond.instanceMethod yX2_usesOf ∈ tb := tbm 296 (by decide +kernel) rfl
theorem wd_297 : Cond.selects "ThinExtents$State" yX2_usesOf yX2_usesOf ∈ tb := tbm 297 (by decide +kernel) rfl
theorem wd_298 : Cond.code yX2_usesOf prog_4_method_6_code 2 (Option.some Jvm.ClassFile.FieldType.int) ∈ tb := tbm 298 (by decide +kernel) rfl
theorem wd_299 : Cond.methodLink "ThinExtents" 264 yX0_countFree ∈ tb := tbm 299 (by decide +kernel) rfl
theorem wd_300 : Cond.instanceMethod yX0_countFree ∈ tb := tbm 300 (by decide +kernel) rfl
theorem wd_301 : Cond.selects "ThinExtents$Pool" yX0_countFree yX0_countFree ∈ tb := tbm 301 (by decide +kernel) rfl
theorem wd_302 : Cond.code yX0_countFree prog_2_method_5_code 3 (Option.some Jvm.ClassFile.FieldType.int) ∈ tb := tbm 302 (by decide +kernel) rfl
theorem wd_303 : Cond.methodLink "ThinExtents$Pool" 35 yX0_isFree ∈ tb := tbm 303 (by decide +kernel) rfl
theorem wd_304 : Cond.instanceMethod yX0_isFree ∈ tb := tbm 304 (by decide +kernel) rfl
theorem wd_305 : Cond.selects "ThinExtents$Pool" yX0_isFree yX0_isFree ∈ tb := tbm 305 (by decide +kernel) rfl
theorem wd_306 : Cond.code yX0_isFree prog_2_method_2_code 2 (Option.some Jvm.ClassFile.FieldType.boolean) ∈ tb := tbm 306 (by decide +kernel) rfl
theorem wd_307 : Cond.methodLink "ThinExtents" 319 yX1_valueAt ∈ tb := tbm 307 (by decide +kernel) rfl
theorem wd_308 : Cond.instanceMethod yX1_valueAt ∈ tb := tbm 308 (by decide +kernel) rfl
theorem wd_309 : Cond.selects "ThinExtents$Queue" yX1_valueAt yX1_valueAt ∈ tb := tbm 309 (by decide +kernel) rfl
theorem wd_310 : Cond.code yX1_valueAt prog_3_method_6_code 2 (Option.some Jvm.ClassFile.FieldType.int) ∈ tb := tbm 310 (by decide +kernel) rfl
theorem wd_311 : Cond.methodLink "ThinExtents" 134 yX4_perform ∈ tb := tbm 311 (by decide +kernel) rfl
theorem wd_313 : Cond.instanceMethod yX4_perform ∈ tb := tbm 313 (by decide +kernel) rfl
theorem wd_314 : Cond.code yX4_perform prog_1_method_40_code 8 (Option.some Jvm.ClassFile.FieldType.int) ∈ tb := tbm 314 (by decide +kernel) rfl
theorem wd_315 : Cond.methodLink "ThinExtents" 299 yX0_setWord ∈ tb := tbm 315 (by decide +kernel) rfl
theorem wd_316 : Cond.instanceMethod yX0_setWord ∈ tb := tbm 316 (by decide +kernel) rfl
theorem wd_317 : Cond.selects "ThinExtents$Pool" yX0_setWord yX0_setWord ∈ tb := tbm 317 (by decide +kernel) rfl
theorem wd_318 : Cond.code yX0_setWord prog_2_method_8_code 5 (Option.none : Option Jvm.ClassFile.FieldType) ∈ tb := tbm 318 (by decide +kernel) rfl
theorem wd_319 : Cond.methodLink "ThinExtents" 302 yX0_take ∈ tb := tbm 319 (by decide +kernel) rfl
theorem wd_320 : Cond.instanceMethod yX0_take ∈ tb := tbm 320 (by decide +kernel) rfl
theorem wd_321 : Cond.selects "ThinExtents$Pool" yX0_take yX0_take ∈ tb := tbm 321 (by decide +kernel) rfl
theorem wd_322 : Cond.code yX0_take prog_2_method_6_code 4 (Option.some Jvm.ClassFile.FieldType.int) ∈ tb := tbm 322 (by decide +kernel) rfl
theorem wd_323 : Cond.methodLink "ThinExtents" 144 yX4_wordOf ∈ tb := tbm 323 (by decide +kernel) rfl
theorem wd_325 : Cond.instanceMethod yX4_wordOf ∈ tb := tbm 325 (by decide +kernel) rfl
theorem wd_326 : Cond.code yX4_wordOf prog_1_method_41_code 4 (Option.some Jvm.ClassFile.FieldType.int) ∈ tb := tbm 326 (by decide +kernel) rfl
theorem wd_327 : Cond.methodLink "ThinExtents" 305 yX0_wordAt ∈ tb := tbm 327 (by decide +kernel) rfl
theorem wd_328 : Cond.instanceMethod yX0_wordAt ∈ tb := tbm 328 (by decide +kernel) rfl
theorem wd_329 : Cond.selects "ThinExtents$Pool" yX0_wordAt yX0_wordAt ∈ tb := tbm 329 (by decide +kernel) rfl
theorem wd_330 : Cond.code yX0_wordAt prog_2_method_7_code 4 (Option.some Jvm.ClassFile.FieldType.int) ∈ tb := tbm 330 (by decide +kernel) rfl
theorem wd_331 : Cond.methodLink "ThinExtents" 87 yX2_setExtent ∈ tb := tbm 331 (by decide +kernel) rfl
theorem wd_332 : Cond.instanceMethod yX2_setExtent ∈ tb := tbm 332 (by decide +kernel) rfl
theorem wd_333 : Cond.selects "ThinExtents$State" yX2_setExtent yX2_setExtent ∈ tb := tbm 333 (by decide +kernel) rfl
theorem wd_334 : Cond.code yX2_setExtent prog_4_method_7_code 5 (Option.none : Option Jvm.ClassFile.FieldType) ∈ tb := tbm 334 (by decide +kernel) rfl
theorem wd_335 : Cond.methodLink "ThinExtents$State" 49 yX3_extentOf ∈ tb := tbm 335 (by decide +kernel) rfl
theorem wd_336 : Cond.methodLink "ThinExtents$State" 56 yX3_setExtent ∈ tb := tbm 336 (by decide +kernel) rfl
theorem wd_337 : Cond.instanceMethod yX3_setExtent ∈ tb := tbm 337 (by decide +kernel) rfl
theorem wd_338 : Cond.selects "ThinExtents$Volume" yX3_setExtent yX3_setExtent ∈ tb := tbm 338 (by decide +kernel) rfl
theorem wd_339 : Cond.code yX3_setExtent prog_5_method_3_code 3 (Option.none : Option Jvm.ClassFile.FieldType) ∈ tb := tbm 339 (by decide +kernel) rfl
theorem wd_340 : Cond.methodLink "ThinExtents" 311 yX1_removeFirst ∈ tb := tbm 340 (by decide +kernel) rfl
theorem wd_341 : Cond.instanceMethod yX1_removeFirst ∈ tb := tbm 341 (by decide +kernel) rfl
theorem wd_342 : Cond.selects "ThinExtents$Queue" yX1_removeFirst yX1_removeFirst ∈ tb := tbm 342 (by decide +kernel) rfl
theorem wd_343 : Cond.code yX1_removeFirst prog_3_method_9_code 2 (Option.none : Option Jvm.ClassFile.FieldType) ∈ tb := tbm 343 (by decide +kernel) rfl
theorem wd_344 : Cond.methodLink "ThinExtents$Queue" 33 yX1_volumeAt ∈ tb := tbm 344 (by decide +kernel) rfl
theorem wd_345 : Cond.methodLink "ThinExtents$Queue" 29 yX1_wordAt ∈ tb := tbm 345 (by decide +kernel) rfl
theorem wd_346 : Cond.methodLink "ThinExtents$Queue" 36 yX1_valueAt ∈ tb := tbm 346 (by decide +kernel) rfl
theorem wd_347 : Cond.methodLink "ThinExtents$Queue" 25 yX1_put ∈ tb := tbm 347 (by decide +kernel) rfl
theorem wd_349 : Cond.instanceMethod yX1_put ∈ tb := tbm 349 (by decide +kernel) rfl
theorem wd_350 : Cond.code yX1_put prog_3_method_3_code 5 (Option.none : Option Jvm.ClassFile.FieldType) ∈ tb := tbm 350 (by decide +kernel) rfl
theorem wd_351 : Cond.methodLink "ThinExtentsLaw" 154 yX4_release ∈ tb := tbm 351 (by decide +kernel) rfl
theorem wd_352 : Cond.instanceMethod yX4_release ∈ tb := tbm 352 (by decide +kernel) rfl
theorem wd_353 : Cond.selects "ThinExtents" yX4_release yX4_release ∈ tb := tbm 353 (by decide +kernel) rfl
theorem wd_354 : Cond.code yX4_release prog_1_method_18_code 2 (Option.some Jvm.ClassFile.FieldType.boolean) ∈ tb := tbm 354 (by decide +kernel) rfl
theorem wd_355 : Cond.methodLink "ThinExtents" 205 yX2_clear ∈ tb := tbm 355 (by decide +kernel) rfl
theorem wd_356 : Cond.instanceMethod yX2_clear ∈ tb := tbm 356 (by decide +kernel) rfl
theorem wd_357 : Cond.selects "ThinExtents$State" yX2_clear yX2_clear ∈ tb := tbm 357 (by decide +kernel) rfl
theorem wd_358 : Cond.code yX2_clear prog_4_method_12_code 5 (Option.none : Option Jvm.ClassFile.FieldType) ∈ tb := tbm 358 (by decide +kernel) rfl
theorem wd_359 : Cond.methodLink "ThinExtents$State" 46 yX3_clear ∈ tb := tbm 359 (by decide +kernel) rfl
theorem wd_360 : Cond.instanceMethod yX3_clear ∈ tb := tbm 360 (by decide +kernel) rfl
theorem wd_361 : Cond.selects "ThinExtents$Volume" yX3_clear yX3_clear ∈ tb := tbm 361 (by decide +kernel) rfl
theorem wd_362 : Cond.code yX3_clear prog_5_method_6_code 1 (Option.none : Option Jvm.ClassFile.FieldType) ∈ tb := tbm 362 (by decide +kernel) rfl
theorem wd_363 : Cond.methodLink "ThinExtents$State" 76 yJ7_fill_53178 ∈ tb := tbm 363 (by decide +kernel) rfl
theorem wd_370 : Cond.methodLink "ThinExtentsLaw" 7 yX4_make ∈ tb := tbm 370 (by decide +kernel) rfl
theorem wd_371 : Cond.instanceMethod yX4_make ∈ tb := tbm 371 (by decide +kernel) rfl
theorem wd_372 : Cond.selects "ThinExtents" yX4_make yX4_make ∈ tb := tbm 372 (by decide +kernel) rfl
theorem wd_373 : Cond.code yX4_make prog_1_method_2_code 5 (Option.some Jvm.ClassFile.FieldType.int) ∈ tb := tbm 373 (by decide +kernel) rfl
theorem wd_374 : Cond.methodLink "ThinExtents" 42 yX4_numbered ∈ tb := tbm 374 (by decide +kernel) rfl
theorem wd_376 : Cond.instanceMethod yX4_numbered ∈ tb := tbm 376 (by decide +kernel) rfl
theorem wd_377 : Cond.code yX4_numbered prog_1_method_28_code 3 (Option.some (Jvm.ClassFile.FieldType.object "ThinExtents$Volume")) ∈ tb := tbm 377 (by decide +kernel) rfl
theorem wd_378 : Cond.methodLink "ThinExtents" 226 yX2_slot ∈ tb := tbm 378 (by decide +kernel) rfl
theorem wd_379 : Cond.classLink "ThinExtents" 148 "java/lang/IndexOutOfBoundsException" ∈ tb := tbm 379 (by decide +kernel) rfl
theorem wd_447 : Cond.methodLink "ThinExtents" 46 yX4_requireSize ∈ tb := tbm 447 (by decide +kernel) rfl
theorem wd_449 : Cond.instanceMethod yX4_requireSize ∈ tb := tbm 449 (by decide +kernel) rfl
theorem wd_450 : Cond.code yX4_requireSize prog_1_method_30_code 2 (Option.none : Option Jvm.ClassFile.FieldType) ∈ tb := tbm 450 (by decide +kernel) rfl
theorem wd_451 : Cond.classLink "ThinExtents" 172 "java/lang/IllegalArgumentException" ∈ tb := tbm 451 (by decide +kernel) rfl
theorem wd_467 : Cond.classLink "ThinExtents" 56 "java/lang/IllegalStateException" ∈ tb := tbm 467 (by decide +kernel) rfl
theorem wd_483 : Cond.methodLink "ThinExtents" 63 yX2_add ∈ tb := tbm 483 (by decide +kernel) rfl
theorem wd_484 : Cond.instanceMethod yX2_add ∈ tb := tbm 484 (by decide +kernel) rfl
theorem wd_485 : Cond.selects "ThinExtents$State" yX2_add yX2_add ∈ tb := tbm 485 (by decide +kernel) rfl
theorem wd_486 : Cond.code yX2_add prog_4_method_4_code 6 (Option.none : Option Jvm.ClassFile.FieldType) ∈ tb := tbm 486 (by decide +kernel) rfl
theorem wd_490 : Cond.methodLink "ThinExtentsLaw" 19 yX4_snap ∈ tb := tbm 490 (by decide +kernel) rfl
theorem wd_491 : Cond.instanceMethod yX4_snap ∈ tb := tbm 491 (by decide +kernel) rfl
theorem wd_492 : Cond.selects "ThinExtents" yX4_snap yX4_snap ∈ tb := tbm 492 (by decide +kernel) rfl
theorem wd_493 : Cond.code yX4_snap prog_1_method_3_code 6 (Option.some Jvm.ClassFile.FieldType.int) ∈ tb := tbm 493 (by decide +kernel) rfl
theorem wd_494 : Cond.methodLink "ThinExtents" 71 yX4_existing ∈ tb := tbm 494 (by decide +kernel) rfl
theorem wd_496 : Cond.instanceMethod yX4_existing ∈ tb := tbm 496 (by decide +kernel) rfl
theorem wd_497 : Cond.code yX4_existing prog_1_method_29_code 3 (Option.some (Jvm.ClassFile.FieldType.object "ThinExtents$Volume")) ∈ tb := tbm 497 (by decide +kernel) rfl
theorem wd_502 : Cond.methodLink "ThinExtentsLaw" 23 yX4_drop ∈ tb := tbm 502 (by decide +kernel) rfl
theorem wd_503 : Cond.instanceMethod yX4_drop ∈ tb := tbm 503 (by decide +kernel) rfl
theorem wd_504 : Cond.selects "ThinExtents" yX4_drop yX4_drop ∈ tb := tbm 504 (by decide +kernel) rfl
theorem wd_505 : Cond.code yX4_drop prog_1_method_4_code 4 (Option.some Jvm.ClassFile.FieldType.int) ∈ tb := tbm 505 (by decide +kernel) rfl
theorem wd_506 : Cond.methodLink "ThinExtents" 97 yX1_removeAllOf ∈ tb := tbm 506 (by decide +kernel) rfl
theorem wd_507 : Cond.instanceMethod yX1_removeAllOf ∈ tb := tbm 507 (by decide +kernel) rfl
theorem wd_508 : Cond.selects "ThinExtents$Queue" yX1_removeAllOf yX1_removeAllOf ∈ tb := tbm 508 (by decide +kernel) rfl
theorem wd_509 : Cond.code yX1_removeAllOf prog_3_method_10_code 4 (Option.some Jvm.ClassFile.FieldType.int) ∈ tb := tbm 509 (by decide +kernel) rfl
theorem wd_510 : Cond.methodLink "ThinExtents" 100 yX2_unmap ∈ tb := tbm 510 (by decide +kernel) rfl
theorem wd_511 : Cond.instanceMethod yX2_unmap ∈ tb := tbm 511 (by decide +kernel) rfl
theorem wd_512 : Cond.selects "ThinExtents$State" yX2_unmap yX2_unmap ∈ tb := tbm 512 (by decide +kernel) rfl
theorem wd_513 : Cond.code yX2_unmap prog_4_method_8_code 6 (Option.some Jvm.ClassFile.FieldType.int) ∈ tb := tbm 513 (by decide +kernel) rfl
theorem wd_514 : Cond.methodLink "ThinExtents$State" 60 yX2_setExtent ∈ tb := tbm 514 (by decide +kernel) rfl
theorem wd_515 : Cond.methodLink "ThinExtents" 104 yX2_remove ∈ tb := tbm 515 (by decide +kernel) rfl
theorem wd_516 : Cond.instanceMethod yX2_remove ∈ tb := tbm 516 (by decide +kernel) rfl
theorem wd_517 : Cond.selects "ThinExtents$State" yX2_remove yX2_remove ∈ tb := tbm 517 (by decide +kernel) rfl
theorem wd_518 : Cond.code yX2_remove prog_4_method_5_code 2 (Option.none : Option Jvm.ClassFile.FieldType) ∈ tb := tbm 518 (by decide +kernel) rfl
theorem wd_522 : Cond.methodLink "ThinExtentsLaw" 27 yX4_resize ∈ tb := tbm 522 (by decide +kernel) rfl
theorem wd_523 : Cond.instanceMethod yX4_resize ∈ tb := tbm 523 (by decide +kernel) rfl
theorem wd_524 : Cond.selects "ThinExtents" yX4_resize yX4_resize ∈ tb := tbm 524 (by decide +kernel) rfl
theorem wd_525 : Cond.code yX4_resize prog_1_method_5_code 5 (Option.some Jvm.ClassFile.FieldType.int) ∈ tb := tbm 525 (by decide +kernel) rfl
theorem wd_526 : Cond.methodLink "ThinExtents" 111 yX4_requireNoneWaits ∈ tb := tbm 526 (by decide +kernel) rfl
theorem wd_528 : Cond.instanceMethod yX4_requireNoneWaits ∈ tb := tbm 528 (by decide +kernel) rfl
theorem wd_529 : Cond.code yX4_requireNoneWaits prog_1_method_32_code 4 (Option.none : Option Jvm.ClassFile.FieldType) ∈ tb := tbm 529 (by decide +kernel) rfl
theorem wd_530 : Cond.methodLink "ThinExtents" 122 yX1_waitsIn ∈ tb := tbm 530 (by decide +kernel) rfl
theorem wd_531 : Cond.instanceMethod yX1_waitsIn ∈ tb := tbm 531 (by decide +kernel) rfl
theorem wd_532 : Cond.selects "ThinExtents$Queue" yX1_waitsIn yX1_waitsIn ∈ tb := tbm 532 (by decide +kernel) rfl
theorem wd_533 : Cond.code yX1_waitsIn prog_3_method_7_code 6 (Option.some Jvm.ClassFile.FieldType.boolean) ∈ tb := tbm 533 (by decide +kernel) rfl
theorem wd_538 : Cond.methodLink "ThinExtentsLaw" 30 yX4_write ∈ tb := tbm 538 (by decide +kernel) rfl
theorem wd_539 : Cond.instanceMethod yX4_write ∈ tb := tbm 539 (by decide +kernel) rfl
theorem wd_540 : Cond.selects "ThinExtents" yX4_write yX4_write ∈ tb := tbm 540 (by decide +kernel) rfl
theorem wd_541 : Cond.code yX4_write prog_1_method_6_code 6 (Option.some Jvm.ClassFile.FieldType.int) ∈ tb := tbm 541 (by decide +kernel) rfl
theorem wd_542 : Cond.methodLink "ThinExtents" 115 yX4_requireWord ∈ tb := tbm 542 (by decide +kernel) rfl
theorem wd_544 : Cond.instanceMethod yX4_requireWord ∈ tb := tbm 544 (by decide +kernel) rfl
theorem wd_545 : Cond.code yX4_requireWord prog_1_method_31_code 3 (Option.none : Option Jvm.ClassFile.FieldType) ∈ tb := tbm 545 (by decide +kernel) rfl
theorem wd_547 : Cond.methodLink "ThinExtents" 126 yX4_enqueue ∈ tb := tbm 547 (by decide +kernel) rfl
theorem wd_549 : Cond.instanceMethod yX4_enqueue ∈ tb := tbm 549 (by decide +kernel) rfl
theorem wd_550 : Cond.code yX4_enqueue prog_1_method_39_code 4 (Option.some Jvm.ClassFile.FieldType.int) ∈ tb := tbm 550 (by decide +kernel) rfl
theorem wd_551 : Cond.methodLink "ThinExtents" 297 yX1_add ∈ tb := tbm 551 (by decide +kernel) rfl
theorem wd_552 : Cond.instanceMethod yX1_add ∈ tb := tbm 552 (by decide +kernel) rfl
theorem wd_553 : Cond.selects "ThinExtents$Queue" yX1_add yX1_add ∈ tb := tbm 553 (by decide +kernel) rfl
theorem wd_554 : Cond.code yX1_add prog_3_method_2_code 4 (Option.some Jvm.ClassFile.FieldType.boolean) ∈ tb := tbm 554 (by decide +kernel) rfl
theorem wd_555 : Cond.methodLink "ThinExtents" 140 yX4_writeNeeding ∈ tb := tbm 555 (by decide +kernel) rfl
theorem wd_557 : Cond.instanceMethod yX4_writeNeeding ∈ tb := tbm 557 (by decide +kernel) rfl
theorem wd_558 : Cond.code yX4_writeNeeding prog_1_method_38_code 5 (Option.some Jvm.ClassFile.FieldType.int) ∈ tb := tbm 558 (by decide +kernel) rfl
theorem wd_562 : Cond.methodLink "ThinExtentsLaw" 34 yX4_read ∈ tb := tbm 562 (by decide +kernel) rfl
theorem wd_563 : Cond.instanceMethod yX4_read ∈ tb := tbm 563 (by decide +kernel) rfl
theorem wd_564 : Cond.selects "ThinExtents" yX4_read yX4_read ∈ tb := tbm 564 (by decide +kernel) rfl
theorem wd_565 : Cond.code yX4_read prog_1_method_7_code 4 (Option.some Jvm.ClassFile.FieldType.int) ∈ tb := tbm 565 (by decide +kernel) rfl
theorem wd_569 : Cond.methodLink "ThinExtentsLaw" 37 yX4_discard ∈ tb := tbm 569 (by decide +kernel) rfl
theorem wd_570 : Cond.instanceMethod yX4_discard ∈ tb := tbm 570 (by decide +kernel) rfl
theorem wd_571 : Cond.selects "ThinExtents" yX4_discard yX4_discard ∈ tb := tbm 571 (by decide +kernel) rfl
theorem wd_572 : Cond.code yX4_discard prog_1_method_8_code 6 (Option.some Jvm.ClassFile.FieldType.int) ∈ tb := tbm 572 (by decide +kernel) rfl
theorem wd_577 : Cond.methodLink "ThinExtentsLaw" 40 yX4_grow ∈ tb := tbm 577 (by decide +kernel) rfl
theorem wd_578 : Cond.instanceMethod yX4_grow ∈ tb := tbm 578 (by decide +kernel) rfl
theorem wd_579 : Cond.selects "ThinExtents" yX4_grow yX4_grow ∈ tb := tbm 579 (by decide +kernel) rfl
theorem wd_580 : Cond.code yX4_grow prog_1_method_9_code 2 (Option.some Jvm.ClassFile.FieldType.int) ∈ tb := tbm 580 (by decide +kernel) rfl
theorem wd_581 : Cond.methodLink "ThinExtents" 153 yX4_requireNotNegative ∈ tb := tbm 581 (by decide +kernel) rfl
theorem wd_583 : Cond.instanceMethod yX4_requireNotNegative ∈ tb := tbm 583 (by decide +kernel) rfl
theorem wd_584 : Cond.code yX4_requireNotNegative prog_1_method_33_code 2 (Option.none : Option Jvm.ClassFile.FieldType) ∈ tb := tbm 584 (by decide +kernel) rfl
theorem wd_589 : Cond.methodLink "ThinExtentsLaw" 43 yX4_shrink ∈ tb := tbm 589 (by decide +kernel) rfl
theorem wd_590 : Cond.instanceMethod yX4_shrink ∈ tb := tbm 590 (by decide +kernel) rfl
theorem wd_591 : Cond.selects "ThinExtents" yX4_shrink yX4_shrink ∈ tb := tbm 591 (by decide +kernel) rfl
theorem wd_592 : Cond.code yX4_shrink prog_1_method_10_code 2 (Option.some Jvm.ClassFile.FieldType.int) ∈ tb := tbm 592 (by decide +kernel) rfl
theorem wd_593 : Cond.methodLink "ThinExtents" 157 yX0_areFree ∈ tb := tbm 593 (by decide +kernel) rfl
theorem wd_594 : Cond.instanceMethod yX0_areFree ∈ tb := tbm 594 (by decide +kernel) rfl
theorem wd_595 : Cond.selects "ThinExtents$Pool" yX0_areFree yX0_areFree ∈ tb := tbm 595 (by decide +kernel) rfl
theorem wd_596 : Cond.code yX0_areFree prog_2_method_4_code 4 (Option.some Jvm.ClassFile.FieldType.boolean) ∈ tb := tbm 596 (by decide +kernel) rfl
theorem wd_600 : Cond.methodLink "ThinExtentsLaw" 46 yX4_back ∈ tb := tbm 600 (by decide +kernel) rfl
theorem wd_601 : Cond.instanceMethod yX4_back ∈ tb := tbm 601 (by decide +kernel) rfl
theorem wd_602 : Cond.selects "ThinExtents" yX4_back yX4_back ∈ tb := tbm 602 (by decide +kernel) rfl
theorem wd_603 : Cond.code yX4_back prog_1_method_11_code 4 (Option.some Jvm.ClassFile.FieldType.int) ∈ tb := tbm 603 (by decide +kernel) rfl
theorem wd_605 : Cond.methodLink "ThinExtents" 166 yX2_hasBacked ∈ tb := tbm 605 (by decide +kernel) rfl
theorem wd_606 : Cond.instanceMethod yX2_hasBacked ∈ tb := tbm 606 (by decide +kernel) rfl
theorem wd_607 : Cond.selects "ThinExtents$State" yX2_hasBacked yX2_hasBacked ∈ tb := tbm 607 (by decide +kernel) rfl
theorem wd_608 : Cond.code yX2_hasBacked prog_4_method_10_code 5 (Option.some Jvm.ClassFile.FieldType.boolean) ∈ tb := tbm 608 (by decide +kernel) rfl
theorem wd_613 : Cond.methodLink "ThinExtentsLaw" 49 yX4_quota ∈ tb := tbm 613 (by decide +kernel) rfl
theorem wd_614 : Cond.instanceMethod yX4_quota ∈ tb := tbm 614 (by decide +kernel) rfl
theorem wd_615 : Cond.selects "ThinExtents" yX4_quota yX4_quota ∈ tb := tbm 615 (by decide +kernel) rfl
theorem wd_616 : Cond.code yX4_quota prog_1_method_12_code 5 (Option.some Jvm.ClassFile.FieldType.int) ∈ tb := tbm 616 (by decide +kernel) rfl
theorem wd_621 : Cond.methodLink "ThinExtentsLaw" 52 yX4_marked ∈ tb := tbm 621 (by decide +kernel) rfl
theorem wd_622 : Cond.instanceMethod yX4_marked ∈ tb := tbm 622 (by decide +kernel) rfl
theorem wd_623 : Cond.selects "ThinExtents" yX4_marked yX4_marked ∈ tb := tbm 623 (by decide +kernel) rfl
theorem wd_624 : Cond.code yX4_marked prog_1_method_14_code 2 (Option.some Jvm.ClassFile.FieldType.int) ∈ tb := tbm 624 (by decide +kernel) rfl
theorem wd_625 : Cond.methodLink "ThinExtents" 180 yX4_stateOf ∈ tb := tbm 625 (by decide +kernel) rfl
theorem wd_627 : Cond.instanceMethod yX4_stateOf ∈ tb := tbm 627 (by decide +kernel) rfl
theorem wd_628 : Cond.code yX4_stateOf prog_1_method_35_code 2 (Option.some (Jvm.ClassFile.FieldType.object "ThinExtents$State")) ∈ tb := tbm 628 (by decide +kernel) rfl
theorem wd_633 : Cond.methodLink "ThinExtentsLaw" 55 yX4_cut ∈ tb := tbm 633 (by decide +kernel) rfl
theorem wd_634 : Cond.instanceMethod yX4_cut ∈ tb := tbm 634 (by decide +kernel) rfl
theorem wd_635 : Cond.selects "ThinExtents" yX4_cut yX4_cut ∈ tb := tbm 635 (by decide +kernel) rfl
theorem wd_636 : Cond.code yX4_cut prog_1_method_16_code 2 (Option.some Jvm.ClassFile.FieldType.int) ∈ tb := tbm 636 (by decide +kernel) rfl
theorem wd_638 : Cond.methodLink "ThinExtents" 196 yX1_removeAll ∈ tb := tbm 638 (by decide +kernel) rfl
theorem wd_639 : Cond.instanceMethod yX1_removeAll ∈ tb := tbm 639 (by decide +kernel) rfl
theorem wd_640 : Cond.selects "ThinExtents$Queue" yX1_removeAll yX1_removeAll ∈ tb := tbm 640 (by decide +kernel) rfl
theorem wd_641 : Cond.code yX1_removeAll prog_3_method_11_code 2 (Option.some Jvm.ClassFile.FieldType.int) ∈ tb := tbm 641 (by decide +kernel) rfl
theorem wd_645 : Cond.methodLink "ThinExtentsLaw" 58 yX4_hold ∈ tb := tbm 645 (by decide +kernel) rfl
theorem wd_646 : Cond.instanceMethod yX4_hold ∈ tb := tbm 646 (by decide +kernel) rfl
theorem wd_647 : Cond.selects "ThinExtents" yX4_hold yX4_hold ∈ tb := tbm 647 (by decide +kernel) rfl
theorem wd_648 : Cond.code yX4_hold prog_1_method_17_code 1 (Option.some Jvm.ClassFile.FieldType.int) ∈ tb := tbm 648 (by decide +kernel) rfl
theorem wd_653 : Cond.methodLink "ThinExtentsLaw" 62 yX4_patience ∈ tb := tbm 653 (by decide +kernel) rfl
theorem wd_654 : Cond.instanceMethod yX4_patience ∈ tb := tbm 654 (by decide +kernel) rfl
theorem wd_655 : Cond.selects "ThinExtents" yX4_patience yX4_patience ∈ tb := tbm 655 (by decide +kernel) rfl
theorem wd_656 : Cond.code yX4_patience prog_1_method_19_code 3 (Option.some Jvm.ClassFile.FieldType.int) ∈ tb := tbm 656 (by decide +kernel) rfl
theorem wd_661 : Cond.methodLink "ThinExtentsLaw" 65 yX4_alarm ∈ tb := tbm 661 (by decide +kernel) rfl
theorem wd_662 : Cond.instanceMethod yX4_alarm ∈ tb := tbm 662 (by decide +kernel) rfl
theorem wd_663 : Cond.selects "ThinExtents" yX4_alarm yX4_alarm ∈ tb := tbm 663 (by decide +kernel) rfl
theorem wd_664 : Cond.code yX4_alarm prog_1_method_20_code 3 (Option.some Jvm.ClassFile.FieldType.int) ∈ tb := tbm 664 (by decide +kernel) rfl
theorem wd_669 : Cond.methodLink "ThinExtentsLaw" 68 yX4_tick ∈ tb := tbm 669 (by decide +kernel) rfl
theorem wd_670 : Cond.instanceMethod yX4_tick ∈ tb := tbm 670 (by decide +kernel) rfl
theorem wd_671 : Cond.selects "ThinExtents" yX4_tick yX4_tick ∈ tb := tbm 671 (by decide +kernel) rfl
theorem wd_672 : Cond.code yX4_tick prog_1_method_21_code 3 (Option.some Jvm.ClassFile.FieldType.int) ∈ tb := tbm 672 (by decide +kernel) rfl
theorem wd_677 : Cond.methodLink "ThinExtentsLaw" 71 yX4_map ∈ tb := tbm 677 (by decide +kernel) rfl
theorem wd_678 : Cond.instanceMethod yX4_map ∈ tb := tbm 678 (by decide +kernel) rfl
theorem wd_679 : Cond.selects "ThinExtents" yX4_map yX4_map ∈ tb := tbm 679 (by decide +kernel) rfl
theorem wd_680 : Cond.code yX4_map prog_1_method_22_code 6 (Option.some Jvm.ClassFile.FieldType.int) ∈ tb := tbm 680 (by decide +kernel) rfl
theorem wd_685 : Cond.methodLink "ThinExtentsLaw" 74 yX4_volume ∈ tb := tbm 685 (by decide +kernel) rfl
theorem wd_686 : Cond.instanceMethod yX4_volume ∈ tb := tbm 686 (by decide +kernel) rfl
theorem wd_687 : Cond.selects "ThinExtents" yX4_volume yX4_volume ∈ tb := tbm 687 (by decide +kernel) rfl
theorem wd_688 : Cond.code yX4_volume prog_1_method_23_code 4 (Option.some Jvm.ClassFile.FieldType.int) ∈ tb := tbm 688 (by decide +kernel) rfl
theorem wd_689 : Cond.methodLink "ThinExtents" 231 yX3_lastMapped ∈ tb := tbm 689 (by decide +kernel) rfl
theorem wd_690 : Cond.instanceMethod yX3_lastMapped ∈ tb := tbm 690 (by decide +kernel) rfl
theorem wd_691 : Cond.selects "ThinExtents$Volume" yX3_lastMapped yX3_lastMapped ∈ tb := tbm 691 (by decide +kernel) rfl
theorem wd_692 : Cond.code yX3_lastMapped prog_5_method_4_code 2 (Option.some Jvm.ClassFile.FieldType.int) ∈ tb := tbm 692 (by decide +kernel) rfl
theorem wd_693 : Cond.methodLink "ThinExtents" 234 yX4_countShared ∈ tb := tbm 693 (by decide +kernel) rfl
theorem wd_695 : Cond.instanceMethod yX4_countShared ∈ tb := tbm 695 (by decide +kernel) rfl
theorem wd_696 : Cond.code yX4_countShared prog_1_method_45_code 5 (Option.some Jvm.ClassFile.FieldType.int) ∈ tb := tbm 696 (by decide +kernel) rfl
theorem wd_697 : Cond.methodLink "ThinExtents" 241 yX1_countOf ∈ tb := tbm 697 (by decide +kernel) rfl
theorem wd_698 : Cond.instanceMethod yX1_countOf ∈ tb := tbm 698 (by decide +kernel) rfl
theorem wd_699 : Cond.selects "ThinExtents$Queue" yX1_countOf yX1_countOf ∈ tb := tbm 699 (by decide +kernel) rfl
theorem wd_700 : Cond.code yX1_countOf prog_3_method_8_code 4 (Option.some Jvm.ClassFile.FieldType.int) ∈ tb := tbm 700 (by decide +kernel) rfl
theorem wd_705 : Cond.methodLink "ThinExtentsLaw" 77 yX4_differ ∈ tb := tbm 705 (by decide +kernel) rfl
theorem wd_706 : Cond.instanceMethod yX4_differ ∈ tb := tbm 706 (by decide +kernel) rfl
theorem wd_707 : Cond.selects "ThinExtents" yX4_differ yX4_differ ∈ tb := tbm 707 (by decide +kernel) rfl
theorem wd_708 : Cond.code yX4_differ prog_1_method_24_code 6 (Option.some Jvm.ClassFile.FieldType.int) ∈ tb := tbm 708 (by decide +kernel) rfl
theorem wd_709 : Cond.methodLink "ThinExtents" 246 yX4_countRuns ∈ tb := tbm 709 (by decide +kernel) rfl
theorem wd_711 : Cond.instanceMethod yX4_countRuns ∈ tb := tbm 711 (by decide +kernel) rfl
theorem wd_712 : Cond.code yX4_countRuns prog_1_method_48_code 7 (Option.some Jvm.ClassFile.FieldType.int) ∈ tb := tbm 712 (by decide +kernel) rfl
theorem wd_713 : Cond.methodLink "ThinExtents" 322 yX4_sortOf ∈ tb := tbm 713 (by decide +kernel) rfl
theorem wd_715 : Cond.instanceMethod yX4_sortOf ∈ tb := tbm 715 (by decide +kernel) rfl
theorem wd_716 : Cond.code yX4_sortOf prog_1_method_46_code 6 (Option.some Jvm.ClassFile.FieldType.int) ∈ tb := tbm 716 (by decide +kernel) rfl
theorem wd_717 : Cond.methodLink "ThinExtents" 250 yX4_countSort ∈ tb := tbm 717 (by decide +kernel) rfl
theorem wd_719 : Cond.instanceMethod yX4_countSort ∈ tb := tbm 719 (by decide +kernel) rfl
theorem wd_720 : Cond.code yX4_countSort prog_1_method_47_code 6 (Option.some Jvm.ClassFile.FieldType.int) ∈ tb := tbm 720 (by decide +kernel) rfl
theorem wd_724 : Cond.methodLink "ThinExtentsLaw" 80 yX4_users ∈ tb := tbm 724 (by decide +kernel) rfl
theorem wd_725 : Cond.instanceMethod yX4_users ∈ tb := tbm 725 (by decide +kernel) rfl
theorem wd_726 : Cond.selects "ThinExtents" yX4_users yX4_users ∈ tb := tbm 726 (by decide +kernel) rfl
theorem wd_727 : Cond.code yX4_users prog_1_method_25_code 2 (Option.some Jvm.ClassFile.FieldType.int) ∈ tb := tbm 727 (by decide +kernel) rfl
theorem wd_728 : Cond.methodLink "ThinExtents" 254 yX4_requireExtent ∈ tb := tbm 728 (by decide +kernel) rfl
theorem wd_730 : Cond.instanceMethod yX4_requireExtent ∈ tb := tbm 730 (by decide +kernel) rfl
theorem wd_731 : Cond.code yX4_requireExtent prog_1_method_34_code 2 (Option.none : Option Jvm.ClassFile.FieldType) ∈ tb := tbm 731 (by decide +kernel) rfl
theorem wd_733 : Cond.methodLink "ThinExtents" 257 yX2_usesOf ∈ tb := tbm 733 (by decide +kernel) rfl
theorem wd_737 : Cond.methodLink "ThinExtentsLaw" 83 yX4_user ∈ tb := tbm 737 (by decide +kernel) rfl
theorem wd_738 : Cond.instanceMethod yX4_user ∈ tb := tbm 738 (by decide +kernel) rfl
theorem wd_739 : Cond.selects "ThinExtents" yX4_user yX4_user ∈ tb := tbm 739 (by decide +kernel) rfl
theorem wd_740 : Cond.code yX4_user prog_1_method_26_code 3 (Option.some Jvm.ClassFile.FieldType.int) ∈ tb := tbm 740 (by decide +kernel) rfl
theorem wd_741 : Cond.methodLink "ThinExtents" 260 yX2_userOf ∈ tb := tbm 741 (by decide +kernel) rfl
theorem wd_742 : Cond.instanceMethod yX2_userOf ∈ tb := tbm 742 (by decide +kernel) rfl
theorem wd_743 : Cond.selects "ThinExtents$State" yX2_userOf yX2_userOf ∈ tb := tbm 743 (by decide +kernel) rfl
theorem wd_744 : Cond.code yX2_userOf prog_4_method_9_code 6 (Option.some Jvm.ClassFile.FieldType.int) ∈ tb := tbm 744 (by decide +kernel) rfl
theorem wd_748 : Cond.methodLink "ThinExtentsLaw" 86 yX4_told ∈ tb := tbm 748 (by decide +kernel) rfl
theorem wd_749 : Cond.instanceMethod yX4_told ∈ tb := tbm 749 (by decide +kernel) rfl
theorem wd_750 : Cond.selects "ThinExtents" yX4_told yX4_told ∈ tb := tbm 750 (by decide +kernel) rfl
theorem wd_751 : Cond.code yX4_told prog_1_method_27_code 2 (Option.some Jvm.ClassFile.FieldType.int) ∈ tb := tbm 751 (by decide +kernel) rfl
theorem wd_758 : Cond.fieldLink "ThinExtentsModel" 51 "ThinExtentsModel" "thrown" "I" ∈ tb := tbm 758 (by decide +kernel) rfl
theorem wd_759 : Cond.fieldLink "ThinExtentsModel" 7 "ThinExtentsModel" "there" "[Z" ∈ tb := tbm 759 (by decide +kernel) rfl
theorem wd_760 : Cond.fieldLink "ThinExtentsModel" 13 "ThinExtentsModel" "size" "[I" ∈ tb := tbm 760 (by decide +kernel) rfl
theorem wd_761 : Cond.fieldLink "ThinExtentsModel" 17 "ThinExtentsModel" "backed" "[Z" ∈ tb := tbm 761 (by decide +kernel) rfl
theorem wd_762 : Cond.fieldLink "ThinExtentsModel" 20 "ThinExtentsModel" "quota" "[I" ∈ tb := tbm 762 (by decide +kernel) rfl
theorem wd_763 : Cond.fieldLink "ThinExtentsModel" 23 "ThinExtentsModel" "origin" "[I" ∈ tb := tbm 763 (by decide +kernel) rfl
theorem wd_764 : Cond.fieldLink "ThinExtentsModel" 26 "ThinExtentsModel" "map" "[I" ∈ tb := tbm 764 (by decide +kernel) rfl
theorem wd_765 : Cond.fieldLink "ThinExtentsModel" 29 "ThinExtentsModel" "mark" "[I" ∈ tb := tbm 765 (by decide +kernel) rfl
theorem wd_766 : Cond.fieldLink "ThinExtentsModel" 166 "ThinExtentsModel" "held" "Z" ∈ tb := tbm 766 (by decide +kernel) rfl
theorem wd_767 : Cond.fieldLink "ThinExtentsModel" 32 "ThinExtentsModel" "extents" "I" ∈ tb := tbm 767 (by decide +kernel) rfl
theorem wd_768 : Cond.fieldLink "ThinExtentsModel" 36 "ThinExtentsModel" "words" "[I" ∈ tb := tbm 768 (by decide +kernel) rfl
theorem wd_769 : Cond.fieldLink "ThinExtentsModel" 39 "ThinExtentsModel" "backing" "[I" ∈ tb := tbm 769 (by decide +kernel) rfl
theorem wd_770 : Cond.fieldLink "ThinExtentsModel" 80 "ThinExtentsModel" "cursor" "I" ∈ tb := tbm 770 (by decide +kernel) rfl
theorem wd_771 : Cond.fieldLink "ThinExtentsModel" 96 "ThinExtentsModel" "alarm" "I" ∈ tb := tbm 771 (by decide +kernel) rfl
theorem wd_772 : Cond.fieldLink "ThinExtentsModel" 89 "ThinExtentsModel" "alarms" "I" ∈ tb := tbm 772 (by decide +kernel) rfl
theorem wd_773 : Cond.fieldLink "ThinExtentsModel" 86 "ThinExtentsModel" "taken" "I" ∈ tb := tbm 773 (by decide +kernel) rfl
theorem wd_774 : Cond.fieldLink "ThinExtentsModel" 110 "ThinExtentsModel" "mode" "I" ∈ tb := tbm 774 (by decide +kernel) rfl
theorem wd_775 : Cond.fieldLink "ThinExtentsModel" 135 "ThinExtentsModel" "patience" "I" ∈ tb := tbm 775 (by decide +kernel) rfl
theorem wd_776 : Cond.fieldLink "ThinExtentsModel" 138 "ThinExtentsModel" "limit" "I" ∈ tb := tbm 776 (by decide +kernel) rfl
theorem wd_777 : Cond.fieldLink "ThinExtentsModel" 141 "ThinExtentsModel" "waited" "I" ∈ tb := tbm 777 (by decide +kernel) rfl
theorem wd_778 : Cond.fieldLink "ThinExtentsModel" 173 "ThinExtentsModel" "time" "I" ∈ tb := tbm 778 (by decide +kernel) rfl
theorem wd_779 : Cond.fieldLink "ThinExtentsModel" 116 "ThinExtentsModel" "failed" "I" ∈ tb := tbm 779 (by decide +kernel) rfl
theorem wd_780 : Cond.fieldLink "ThinExtentsModel" 163 "ThinExtentsModel" "commits" "I" ∈ tb := tbm 780 (by decide +kernel) rfl
theorem wd_781 : Cond.fieldLink "ThinExtentsModel" 107 "ThinExtentsModel" "queued" "I" ∈ tb := tbm 781 (by decide +kernel) rfl
theorem wd_782 : Cond.fieldLink "ThinExtentsModel" 42 "ThinExtentsModel" "queueVolume" "[I" ∈ tb := tbm 782 (by decide +kernel) rfl
theorem wd_783 : Cond.fieldLink "ThinExtentsModel" 45 "ThinExtentsModel" "queueWord" "[I" ∈ tb := tbm 783 (by decide +kernel) rfl
theorem wd_784 : Cond.fieldLink "ThinExtentsModel" 48 "ThinExtentsModel" "queueValue" "[I" ∈ tb := tbm 784 (by decide +kernel) rfl
theorem wd_841 : Cond.methodLink "ThinExtentsLaw" 99 yX5_thrown ∈ tb := tbm 841 (by decide +kernel) rfl
theorem wd_842 : Cond.instanceMethod yX5_thrown ∈ tb := tbm 842 (by decide +kernel) rfl
theorem wd_843 : Cond.selects "ThinExtentsModel" yX5_thrown yX5_thrown ∈ tb := tbm 843 (by decide +kernel) rfl
theorem wd_844 : Cond.code yX5_thrown prog_7_method_2_code 1 (Option.some Jvm.ClassFile.FieldType.int) ∈ tb := tbm 844 (by decide +kernel) rfl
theorem wd_845 : Cond.methodLink "ThinExtentsLaw" 116 yX5_write ∈ tb := tbm 845 (by decide +kernel) rfl
theorem wd_846 : Cond.instanceMethod yX5_write ∈ tb := tbm 846 (by decide +kernel) rfl
theorem wd_847 : Cond.selects "ThinExtentsModel" yX5_write yX5_write ∈ tb := tbm 847 (by decide +kernel) rfl
theorem wd_848 : Cond.code yX5_write prog_7_method_25_code 6 (Option.some Jvm.ClassFile.FieldType.int) ∈ tb := tbm 848 (by decide +kernel) rfl
theorem wd_849 : Cond.methodLink "ThinExtentsModel" 126 yX5_isVolume ∈ tb := tbm 849 (by decide +kernel) rfl
theorem wd_851 : Cond.instanceMethod yX5_isVolume ∈ tb := tbm 851 (by decide +kernel) rfl
theorem wd_852 : Cond.code yX5_isVolume prog_7_method_4_code 2 (Option.some Jvm.ClassFile.FieldType.boolean) ∈ tb := tbm 852 (by decide +kernel) rfl
theorem wd_853 : Cond.methodLink "ThinExtentsModel" 54 yX5_isNumber ∈ tb := tbm 853 (by decide +kernel) rfl
theorem wd_854 : Cond.static yX5_isNumber ∈ tb := tbm 854 (by decide +kernel) rfl
theorem wd_855 : Cond.code yX5_isNumber prog_7_method_3_code 1 (Option.some Jvm.ClassFile.FieldType.boolean) ∈ tb := tbm 855 (by decide +kernel) rfl
theorem wd_856 : Cond.methodLink "ThinExtentsModel" 129 yX5_waits ∈ tb := tbm 856 (by decide +kernel) rfl
theorem wd_858 : Cond.instanceMethod yX5_waits ∈ tb := tbm 858 (by decide +kernel) rfl
theorem wd_859 : Cond.code yX5_waits prog_7_method_21_code 5 (Option.some Jvm.ClassFile.FieldType.boolean) ∈ tb := tbm 859 (by decide +kernel) rfl
theorem wd_860 : Cond.methodLink "ThinExtentsModel" 132 yX5_enqueue ∈ tb := tbm 860 (by decide +kernel) rfl
theorem wd_862 : Cond.instanceMethod yX5_enqueue ∈ tb := tbm 862 (by decide +kernel) rfl
theorem wd_863 : Cond.code yX5_enqueue prog_7_method_22_code 4 (Option.some Jvm.ClassFile.FieldType.int) ∈ tb := tbm 863 (by decide +kernel) rfl
theorem wd_864 : Cond.methodLink "ThinExtentsModel" 113 yX5_isOver ∈ tb := tbm 864 (by decide +kernel) rfl
theorem wd_866 : Cond.instanceMethod yX5_isOver ∈ tb := tbm 866 (by decide +kernel) rfl
theorem wd_867 : Cond.code yX5_isOver prog_7_method_17_code 3 (Option.some Jvm.ClassFile.FieldType.boolean) ∈ tb := tbm 867 (by decide +kernel) rfl
theorem wd_868 : Cond.methodLink "ThinExtentsModel" 58 yX5_at ∈ tb := tbm 868 (by decide +kernel) rfl
theorem wd_869 : Cond.static yX5_at ∈ tb := tbm 869 (by decide +kernel) rfl
theorem wd_870 : Cond.code yX5_at prog_7_method_6_code 3 (Option.some Jvm.ClassFile.FieldType.int) ∈ tb := tbm 870 (by decide +kernel) rfl
theorem wd_871 : Cond.methodLink "ThinExtentsModel" 76 yX5_mapped ∈ tb := tbm 871 (by decide +kernel) rfl
theorem wd_873 : Cond.instanceMethod yX5_mapped ∈ tb := tbm 873 (by decide +kernel) rfl
theorem wd_874 : Cond.code yX5_mapped prog_7_method_11_code 4 (Option.some Jvm.ClassFile.FieldType.int) ∈ tb := tbm 874 (by decide +kernel) rfl
theorem wd_875 : Cond.methodLink "ThinExtentsModel" 99 yX5_needs ∈ tb := tbm 875 (by decide +kernel) rfl
theorem wd_877 : Cond.instanceMethod yX5_needs ∈ tb := tbm 877 (by decide +kernel) rfl
theorem wd_878 : Cond.code yX5_needs prog_7_method_16_code 4 (Option.some Jvm.ClassFile.FieldType.boolean) ∈ tb := tbm 878 (by decide +kernel) rfl
theorem wd_879 : Cond.methodLink "ThinExtentsModel" 73 yX5_isSole ∈ tb := tbm 879 (by decide +kernel) rfl
theorem wd_881 : Cond.instanceMethod yX5_isSole ∈ tb := tbm 881 (by decide +kernel) rfl
theorem wd_882 : Cond.code yX5_isSole prog_7_method_9_code 2 (Option.some Jvm.ClassFile.FieldType.boolean) ∈ tb := tbm 882 (by decide +kernel) rfl
theorem wd_883 : Cond.methodLink "ThinExtentsModel" 62 yX5_usersOf ∈ tb := tbm 883 (by decide +kernel) rfl
theorem wd_885 : Cond.instanceMethod yX5_usersOf ∈ tb := tbm 885 (by decide +kernel) rfl
theorem wd_886 : Cond.code yX5_usersOf prog_7_method_7_code 6 (Option.some Jvm.ClassFile.FieldType.int) ∈ tb := tbm 886 (by decide +kernel) rfl
theorem wd_887 : Cond.methodLink "ThinExtentsModel" 123 yX5_perform ∈ tb := tbm 887 (by decide +kernel) rfl
theorem wd_889 : Cond.instanceMethod yX5_perform ∈ tb := tbm 889 (by decide +kernel) rfl
theorem wd_890 : Cond.code yX5_perform prog_7_method_20_code 7 (Option.some Jvm.ClassFile.FieldType.int) ∈ tb := tbm 890 (by decide +kernel) rfl
theorem wd_891 : Cond.methodLink "ThinExtentsModel" 103 yX5_take ∈ tb := tbm 891 (by decide +kernel) rfl
theorem wd_893 : Cond.instanceMethod yX5_take ∈ tb := tbm 893 (by decide +kernel) rfl
theorem wd_894 : Cond.code yX5_take prog_7_method_19_code 5 (Option.none : Option Jvm.ClassFile.FieldType) ∈ tb := tbm 894 (by decide +kernel) rfl
theorem wd_895 : Cond.methodLink "ThinExtentsModel" 66 yX5_isFree ∈ tb := tbm 895 (by decide +kernel) rfl
theorem wd_897 : Cond.instanceMethod yX5_isFree ∈ tb := tbm 897 (by decide +kernel) rfl
theorem wd_898 : Cond.code yX5_isFree prog_7_method_8_code 2 (Option.some Jvm.ClassFile.FieldType.boolean) ∈ tb := tbm 898 (by decide +kernel) rfl
theorem wd_899 : Cond.methodLink "ThinExtentsModel" 83 yX5_wordOf ∈ tb := tbm 899 (by decide +kernel) rfl
theorem wd_901 : Cond.instanceMethod yX5_wordOf ∈ tb := tbm 901 (by decide +kernel) rfl
theorem wd_902 : Cond.code yX5_wordOf prog_7_method_18_code 4 (Option.some Jvm.ClassFile.FieldType.int) ∈ tb := tbm 902 (by decide +kernel) rfl
theorem wd_903 : Cond.methodLink "ThinExtentsModel" 92 yX5_freeMany ∈ tb := tbm 903 (by decide +kernel) rfl
theorem wd_905 : Cond.instanceMethod yX5_freeMany ∈ tb := tbm 905 (by decide +kernel) rfl
theorem wd_906 : Cond.code yX5_freeMany prog_7_method_10_code 3 (Option.some Jvm.ClassFile.FieldType.int) ∈ tb := tbm 906 (by decide +kernel) rfl
theorem wd_907 : Cond.methodLink "ThinExtentsLaw" 119 yX5_read ∈ tb := tbm 907 (by decide +kernel) rfl
theorem wd_908 : Cond.instanceMethod yX5_read ∈ tb := tbm 908 (by decide +kernel) rfl
theorem wd_909 : Cond.selects "ThinExtentsModel" yX5_read yX5_read ∈ tb := tbm 909 (by decide +kernel) rfl
theorem wd_910 : Cond.code yX5_read prog_7_method_26_code 3 (Option.some Jvm.ClassFile.FieldType.int) ∈ tb := tbm 910 (by decide +kernel) rfl
theorem wd_911 : Cond.methodLink "ThinExtentsLaw" 98 yX5_make ∈ tb := tbm 911 (by decide +kernel) rfl
theorem wd_912 : Cond.instanceMethod yX5_make ∈ tb := tbm 912 (by decide +kernel) rfl
theorem wd_913 : Cond.selects "ThinExtentsModel" yX5_make yX5_make ∈ tb := tbm 913 (by decide +kernel) rfl
theorem wd_914 : Cond.code yX5_make prog_7_method_27_code 5 (Option.some Jvm.ClassFile.FieldType.int) ∈ tb := tbm 914 (by decide +kernel) rfl
theorem wd_915 : Cond.methodLink "ThinExtentsModel" 144 yX5_isSize ∈ tb := tbm 915 (by decide +kernel) rfl
theorem wd_916 : Cond.static yX5_isSize ∈ tb := tbm 916 (by decide +kernel) rfl
theorem wd_917 : Cond.code yX5_isSize prog_7_method_5_code 1 (Option.some Jvm.ClassFile.FieldType.boolean) ∈ tb := tbm 917 (by decide +kernel) rfl
theorem wd_918 : Cond.methodLink "ThinExtentsModel" 147 yX5_volumes ∈ tb := tbm 918 (by decide +kernel) rfl
theorem wd_920 : Cond.instanceMethod yX5_volumes ∈ tb := tbm 920 (by decide +kernel) rfl
theorem wd_921 : Cond.code yX5_volumes prog_7_method_12_code 4 (Option.some Jvm.ClassFile.FieldType.int) ∈ tb := tbm 921 (by decide +kernel) rfl
theorem wd_922 : Cond.methodLink "ThinExtentsLaw" 105 yX5_snap ∈ tb := tbm 922 (by decide +kernel) rfl
theorem wd_923 : Cond.instanceMethod yX5_snap ∈ tb := tbm 923 (by decide +kernel) rfl
theorem wd_924 : Cond.selects "ThinExtentsModel" yX5_snap yX5_snap ∈ tb := tbm 924 (by decide +kernel) rfl
theorem wd_925 : Cond.code yX5_snap prog_7_method_28_code 3 (Option.some Jvm.ClassFile.FieldType.int) ∈ tb := tbm 925 (by decide +kernel) rfl
theorem wd_926 : Cond.methodLink "ThinExtentsModel" 69 yX5_copyVolume ∈ tb := tbm 926 (by decide +kernel) rfl
theorem wd_928 : Cond.instanceMethod yX5_copyVolume ∈ tb := tbm 928 (by decide +kernel) rfl
theorem wd_929 : Cond.code yX5_copyVolume prog_7_method_15_code 8 (Option.none : Option Jvm.ClassFile.FieldType) ∈ tb := tbm 929 (by decide +kernel) rfl
theorem wd_930 : Cond.methodLink "ThinExtentsLaw" 109 yX5_drop ∈ tb := tbm 930 (by decide +kernel) rfl
theorem wd_931 : Cond.instanceMethod yX5_drop ∈ tb := tbm 931 (by decide +kernel) rfl
theorem wd_932 : Cond.selects "ThinExtentsModel" yX5_drop yX5_drop ∈ tb := tbm 932 (by decide +kernel) rfl
theorem wd_933 : Cond.code yX5_drop prog_7_method_29_code 4 (Option.some Jvm.ClassFile.FieldType.int) ∈ tb := tbm 933 (by decide +kernel) rfl
theorem wd_934 : Cond.methodLink "ThinExtentsModel" 119 yX5_unqueue ∈ tb := tbm 934 (by decide +kernel) rfl
theorem wd_936 : Cond.instanceMethod yX5_unqueue ∈ tb := tbm 936 (by decide +kernel) rfl
theorem wd_937 : Cond.code yX5_unqueue prog_7_method_23_code 3 (Option.none : Option Jvm.ClassFile.FieldType) ∈ tb := tbm 937 (by decide +kernel) rfl
theorem wd_938 : Cond.methodLink "ThinExtentsModel" 150 yX5_drain ∈ tb := tbm 938 (by decide +kernel) rfl
theorem wd_940 : Cond.instanceMethod yX5_drain ∈ tb := tbm 940 (by decide +kernel) rfl
theorem wd_941 : Cond.code yX5_drain prog_7_method_24_code 6 (Option.none : Option Jvm.ClassFile.FieldType) ∈ tb := tbm 941 (by decide +kernel) rfl
theorem wd_942 : Cond.methodLink "ThinExtentsLaw" 112 yX5_resize ∈ tb := tbm 942 (by decide +kernel) rfl
theorem wd_943 : Cond.instanceMethod yX5_resize ∈ tb := tbm 943 (by decide +kernel) rfl
theorem wd_944 : Cond.selects "ThinExtentsModel" yX5_resize yX5_resize ∈ tb := tbm 944 (by decide +kernel) rfl
theorem wd_945 : Cond.code yX5_resize prog_7_method_32_code 4 (Option.some Jvm.ClassFile.FieldType.int) ∈ tb := tbm 945 (by decide +kernel) rfl
theorem wd_946 : Cond.methodLink "ThinExtentsModel" 153 yX5_waitsIn ∈ tb := tbm 946 (by decide +kernel) rfl
theorem wd_948 : Cond.instanceMethod yX5_waitsIn ∈ tb := tbm 948 (by decide +kernel) rfl
theorem wd_949 : Cond.code yX5_waitsIn prog_7_method_30_code 6 (Option.some Jvm.ClassFile.FieldType.boolean) ∈ tb := tbm 949 (by decide +kernel) rfl
theorem wd_950 : Cond.methodLink "ThinExtentsModel" 157 yX5_unmap ∈ tb := tbm 950 (by decide +kernel) rfl
theorem wd_952 : Cond.instanceMethod yX5_unmap ∈ tb := tbm 952 (by decide +kernel) rfl
theorem wd_953 : Cond.code yX5_unmap prog_7_method_31_code 6 (Option.some Jvm.ClassFile.FieldType.int) ∈ tb := tbm 953 (by decide +kernel) rfl
theorem wd_954 : Cond.methodLink "ThinExtentsLaw" 122 yX5_discard ∈ tb := tbm 954 (by decide +kernel) rfl
theorem wd_955 : Cond.instanceMethod yX5_discard ∈ tb := tbm 955 (by decide +kernel) rfl
theorem wd_956 : Cond.selects "ThinExtentsModel" yX5_discard yX5_discard ∈ tb := tbm 956 (by decide +kernel) rfl
theorem wd_957 : Cond.code yX5_discard prog_7_method_33_code 5 (Option.some Jvm.ClassFile.FieldType.int) ∈ tb := tbm 957 (by decide +kernel) rfl
theorem wd_958 : Cond.methodLink "ThinExtentsLaw" 125 yX5_grow ∈ tb := tbm 958 (by decide +kernel) rfl
theorem wd_959 : Cond.instanceMethod yX5_grow ∈ tb := tbm 959 (by decide +kernel) rfl
theorem wd_960 : Cond.selects "ThinExtentsModel" yX5_grow yX5_grow ∈ tb := tbm 960 (by decide +kernel) rfl
theorem wd_961 : Cond.code yX5_grow prog_7_method_34_code 2 (Option.some Jvm.ClassFile.FieldType.int) ∈ tb := tbm 961 (by decide +kernel) rfl
theorem wd_962 : Cond.methodLink "ThinExtentsLaw" 128 yX5_shrink ∈ tb := tbm 962 (by decide +kernel) rfl
theorem wd_963 : Cond.instanceMethod yX5_shrink ∈ tb := tbm 963 (by decide +kernel) rfl
theorem wd_964 : Cond.selects "ThinExtentsModel" yX5_shrink yX5_shrink ∈ tb := tbm 964 (by decide +kernel) rfl
theorem wd_965 : Cond.code yX5_shrink prog_7_method_35_code 3 (Option.some Jvm.ClassFile.FieldType.int) ∈ tb := tbm 965 (by decide +kernel) rfl
theorem wd_966 : Cond.methodLink "ThinExtentsLaw" 131 yX5_back ∈ tb := tbm 966 (by decide +kernel) rfl
theorem wd_967 : Cond.instanceMethod yX5_back ∈ tb := tbm 967 (by decide +kernel) rfl
theorem wd_968 : Cond.selects "ThinExtentsModel" yX5_back yX5_back ∈ tb := tbm 968 (by decide +kernel) rfl
theorem wd_969 : Cond.code yX5_back prog_7_method_36_code 4 (Option.some Jvm.ClassFile.FieldType.int) ∈ tb := tbm 969 (by decide +kernel) rfl
theorem wd_970 : Cond.methodLink "ThinExtentsLaw" 134 yX5_quota ∈ tb := tbm 970 (by decide +kernel) rfl
theorem wd_971 : Cond.instanceMethod yX5_quota ∈ tb := tbm 971 (by decide +kernel) rfl
theorem wd_972 : Cond.selects "ThinExtentsModel" yX5_quota yX5_quota ∈ tb := tbm 972 (by decide +kernel) rfl
theorem wd_973 : Cond.code yX5_quota prog_7_method_37_code 4 (Option.some Jvm.ClassFile.FieldType.int) ∈ tb := tbm 973 (by decide +kernel) rfl
theorem wd_974 : Cond.methodLink "ThinExtentsLaw" 139 yX5_mark ∈ tb := tbm 974 (by decide +kernel) rfl
theorem wd_975 : Cond.instanceMethod yX5_mark ∈ tb := tbm 975 (by decide +kernel) rfl
theorem wd_976 : Cond.selects "ThinExtentsModel" yX5_mark yX5_mark ∈ tb := tbm 976 (by decide +kernel) rfl
theorem wd_977 : Cond.code yX5_mark prog_7_method_38_code 3 (Option.some Jvm.ClassFile.FieldType.boolean) ∈ tb := tbm 977 (by decide +kernel) rfl
theorem wd_978 : Cond.methodLink "ThinExtentsLaw" 142 yX5_marked ∈ tb := tbm 978 (by decide +kernel) rfl
theorem wd_979 : Cond.instanceMethod yX5_marked ∈ tb := tbm 979 (by decide +kernel) rfl
theorem wd_980 : Cond.selects "ThinExtentsModel" yX5_marked yX5_marked ∈ tb := tbm 980 (by decide +kernel) rfl
theorem wd_981 : Cond.code yX5_marked prog_7_method_39_code 2 (Option.some Jvm.ClassFile.FieldType.int) ∈ tb := tbm 981 (by decide +kernel) rfl
theorem wd_982 : Cond.methodLink "ThinExtentsLaw" 146 yX5_commit ∈ tb := tbm 982 (by decide +kernel) rfl
theorem wd_983 : Cond.instanceMethod yX5_commit ∈ tb := tbm 983 (by decide +kernel) rfl
theorem wd_984 : Cond.selects "ThinExtentsModel" yX5_commit yX5_commit ∈ tb := tbm 984 (by decide +kernel) rfl
theorem wd_985 : Cond.code yX5_commit prog_7_method_40_code 1 (Option.some Jvm.ClassFile.FieldType.int) ∈ tb := tbm 985 (by decide +kernel) rfl
theorem wd_986 : Cond.methodLink "ThinExtentsModel" 160 yX5_copy ∈ tb := tbm 986 (by decide +kernel) rfl
theorem wd_988 : Cond.instanceMethod yX5_copy ∈ tb := tbm 988 (by decide +kernel) rfl
theorem wd_989 : Cond.code yX5_copy prog_7_method_14_code 4 (Option.none : Option Jvm.ClassFile.FieldType) ∈ tb := tbm 989 (by decide +kernel) rfl
theorem wd_990 : Cond.methodLink "ThinExtentsLaw" 149 yX5_cut ∈ tb := tbm 990 (by decide +kernel) rfl
theorem wd_991 : Cond.instanceMethod yX5_cut ∈ tb := tbm 991 (by decide +kernel) rfl
theorem wd_992 : Cond.selects "ThinExtentsModel" yX5_cut yX5_cut ∈ tb := tbm 992 (by decide +kernel) rfl
theorem wd_993 : Cond.code yX5_cut prog_7_method_41_code 2 (Option.some Jvm.ClassFile.FieldType.int) ∈ tb := tbm 993 (by decide +kernel) rfl
theorem wd_994 : Cond.methodLink "ThinExtentsLaw" 153 yX5_hold ∈ tb := tbm 994 (by decide +kernel) rfl
theorem wd_995 : Cond.instanceMethod yX5_hold ∈ tb := tbm 995 (by decide +kernel) rfl
theorem wd_996 : Cond.selects "ThinExtentsModel" yX5_hold yX5_hold ∈ tb := tbm 996 (by decide +kernel) rfl
theorem wd_997 : Cond.code yX5_hold prog_7_method_42_code 1 (Option.some Jvm.ClassFile.FieldType.int) ∈ tb := tbm 997 (by decide +kernel) rfl
theorem wd_998 : Cond.methodLink "ThinExtentsLaw" 158 yX5_release ∈ tb := tbm 998 (by decide +kernel) rfl
theorem wd_999 : Cond.instanceMethod yX5_release ∈ tb := tbm 999 (by decide +kernel) rfl
theorem wd_1000 : Cond.selects "ThinExtentsModel" yX5_release yX5_release ∈ tb := tbm 1000 (by decide +kernel) rfl
theorem wd_1001 : Cond.code yX5_release prog_7_method_43_code 2 (Option.some Jvm.ClassFile.FieldType.boolean) ∈ tb := tbm 1001 (by decide +kernel) rfl
theorem wd_1002 : Cond.methodLink "ThinExtentsModel" 170 yX5_clearState ∈ tb := tbm 1002 (by decide +kernel) rfl
theorem wd_1004 : Cond.instanceMethod yX5_clearState ∈ tb := tbm 1004 (by decide +kernel) rfl
theorem wd_1005 : Cond.code yX5_clearState prog_7_method_13_code 3 (Option.none : Option Jvm.ClassFile.FieldType) ∈ tb := tbm 1005 (by decide +kernel) rfl
theorem wd_1006 : Cond.methodLink "ThinExtentsLaw" 161 yX5_patience ∈ tb := tbm 1006 (by decide +kernel) rfl
theorem wd_1007 : Cond.instanceMethod yX5_patience ∈ tb := tbm 1007 (by decide +kernel) rfl
theorem wd_1008 : Cond.selects "ThinExtentsModel" yX5_patience yX5_patience ∈ tb := tbm 1008 (by decide +kernel) rfl
theorem wd_1009 : Cond.code yX5_patience prog_7_method_44_code 3 (Option.some Jvm.ClassFile.FieldType.int) ∈ tb := tbm 1009 (by decide +kernel) rfl
theorem wd_1010 : Cond.methodLink "ThinExtentsLaw" 164 yX5_alarm ∈ tb := tbm 1010 (by decide +kernel) rfl
theorem wd_1011 : Cond.instanceMethod yX5_alarm ∈ tb := tbm 1011 (by decide +kernel) rfl
theorem wd_1012 : Cond.selects "ThinExtentsModel" yX5_alarm yX5_alarm ∈ tb := tbm 1012 (by decide +kernel) rfl
theorem wd_1013 : Cond.code yX5_alarm prog_7_method_45_code 3 (Option.some Jvm.ClassFile.FieldType.int) ∈ tb := tbm 1013 (by decide +kernel) rfl
theorem wd_1014 : Cond.methodLink "ThinExtentsLaw" 167 yX5_tick ∈ tb := tbm 1014 (by decide +kernel) rfl
theorem wd_1015 : Cond.instanceMethod yX5_tick ∈ tb := tbm 1015 (by decide +kernel) rfl
theorem wd_1016 : Cond.selects "ThinExtentsModel" yX5_tick yX5_tick ∈ tb := tbm 1016 (by decide +kernel) rfl
theorem wd_1017 : Cond.code yX5_tick prog_7_method_46_code 3 (Option.some Jvm.ClassFile.FieldType.int) ∈ tb := tbm 1017 (by decide +kernel) rfl
theorem wd_1018 : Cond.methodLink "ThinExtentsLaw" 170 yX5_map ∈ tb := tbm 1018 (by decide +kernel) rfl
theorem wd_1019 : Cond.instanceMethod yX5_map ∈ tb := tbm 1019 (by decide +kernel) rfl
theorem wd_1020 : Cond.selects "ThinExtentsModel" yX5_map yX5_map ∈ tb := tbm 1020 (by decide +kernel) rfl
theorem wd_1021 : Cond.code yX5_map prog_7_method_47_code 4 (Option.some Jvm.ClassFile.FieldType.int) ∈ tb := tbm 1021 (by decide +kernel) rfl
theorem wd_1022 : Cond.methodLink "ThinExtentsLaw" 173 yX5_volume ∈ tb := tbm 1022 (by decide +kernel) rfl
theorem wd_1023 : Cond.instanceMethod yX5_volume ∈ tb := tbm 1023 (by decide +kernel) rfl
theorem wd_1024 : Cond.selects "ThinExtentsModel" yX5_volume yX5_volume ∈ tb := tbm 1024 (by decide +kernel) rfl
theorem wd_1025 : Cond.code yX5_volume prog_7_method_48_code 8 (Option.some Jvm.ClassFile.FieldType.int) ∈ tb := tbm 1025 (by decide +kernel) rfl
theorem wd_1026 : Cond.methodLink "ThinExtentsLaw" 176 yX5_differ ∈ tb := tbm 1026 (by decide +kernel) rfl
theorem wd_1027 : Cond.instanceMethod yX5_differ ∈ tb := tbm 1027 (by decide +kernel) rfl
theorem wd_1028 : Cond.selects "ThinExtentsModel" yX5_differ yX5_differ ∈ tb := tbm 1028 (by decide +kernel) rfl
theorem wd_1029 : Cond.code yX5_differ prog_7_method_50_code 8 (Option.some Jvm.ClassFile.FieldType.int) ∈ tb := tbm 1029 (by decide +kernel) rfl
theorem wd_1030 : Cond.methodLink "ThinExtentsModel" 176 yX5_sortAt ∈ tb := tbm 1030 (by decide +kernel) rfl
theorem wd_1032 : Cond.instanceMethod yX5_sortAt ∈ tb := tbm 1032 (by decide +kernel) rfl
theorem wd_1033 : Cond.code yX5_sortAt prog_7_method_49_code 6 (Option.some Jvm.ClassFile.FieldType.int) ∈ tb := tbm 1033 (by decide +kernel) rfl
theorem wd_1034 : Cond.methodLink "ThinExtentsLaw" 179 yX5_users ∈ tb := tbm 1034 (by decide +kernel) rfl
theorem wd_1035 : Cond.instanceMethod yX5_users ∈ tb := tbm 1035 (by decide +kernel) rfl
theorem wd_1036 : Cond.selects "ThinExtentsModel" yX5_users yX5_users ∈ tb := tbm 1036 (by decide +kernel) rfl
theorem wd_1037 : Cond.code yX5_users prog_7_method_51_code 2 (Option.some Jvm.ClassFile.FieldType.int) ∈ tb := tbm 1037 (by decide +kernel) rfl
theorem wd_1038 : Cond.methodLink "ThinExtentsLaw" 182 yX5_user ∈ tb := tbm 1038 (by decide +kernel) rfl
theorem wd_1039 : Cond.instanceMethod yX5_user ∈ tb := tbm 1039 (by decide +kernel) rfl
theorem wd_1040 : Cond.selects "ThinExtentsModel" yX5_user yX5_user ∈ tb := tbm 1040 (by decide +kernel) rfl
theorem wd_1041 : Cond.code yX5_user prog_7_method_52_code 6 (Option.some Jvm.ClassFile.FieldType.int) ∈ tb := tbm 1041 (by decide +kernel) rfl
theorem wd_1042 : Cond.methodLink "ThinExtentsLaw" 185 yX5_told ∈ tb := tbm 1042 (by decide +kernel) rfl
theorem wd_1043 : Cond.instanceMethod yX5_told ∈ tb := tbm 1043 (by decide +kernel) rfl
theorem wd_1044 : Cond.selects "ThinExtentsModel" yX5_told yX5_told ∈ tb := tbm 1044 (by decide +kernel) rfl
theorem wd_1045 : Cond.code yX5_told prog_7_method_53_code 2 (Option.some Jvm.ClassFile.FieldType.int) ∈ tb := tbm 1045 (by decide +kernel) rfl
theorem in_X0 : ∀ w ∈ u_ws RX0 TX0 9, w ∈ tb := by decide +kernel
theorem in_X1 : ∀ w ∈ u_ws RX1 TX1 4, w ∈ tb := by decide +kernel
theorem in_X2 : ∀ w ∈ u_ws RX2 TX2 4, w ∈ tb := by decide +kernel
theorem in_X3 : ∀ w ∈ u_ws RX3 TX3 7, w ∈ tb := by decide +kernel
theorem in_X4 : ∀ w ∈ u_ws RX4 TX4 13, w ∈ tb := by decide +kernel
theorem in_X5 : ∀ w ∈ u_ws RX5 TX5 27, w ∈ tb := by decide +kernel
section FR
variable {p : Program} {l : Launch} {e : Env} {R : Room} {s : State} {m : MethodId} {args : Array Value} {below : List Frame} {meth : Method} {c : Code} {D : DD} {n0 nL cells slots : Nat} {Q : State → Prop} {own : String} {cc : ByteArray} {κ μ : KH} {o : Int64} {pc : Nat} {ls : List (Option Value)} {st : List Value}
theorem gf_X4_50 (C : Cx p l s m args meth c D n0 RX4 cc nL) {k : Nat} (hk : isV k) {v : Int32} (hv : κ k 0 = v) (hd : decode cc pc = .ok (.getfield 50, 3)) (kk : ZZ p l e R s m args below meth c D n0 127 nL cells slots Q (κ, μ, o) (pc + 3) ls (.int v :: st)) : ZZ p l e R s m args below meth c D n0 127 nL cells slots Q (κ, μ, o) pc ls (.ref (n0 + k) :: st) := by subst hv; exact z_getf C 0 (enc_V hk) (by have := hk.2.1; omega) rfl in_X3 (by decide) wd_84 rfl rfl hd kk
theorem pf_X4_50 (C : Cx p l s m args meth c D n0 RX4 cc nL) {k : Nat} (hk : isV k) {x : Int32} (hx : x = 0 ∨ x = 1) (hd : decode cc pc = .ok (.putfield 50, 3)) (kk : ZZ p l e R s m args below meth c D n0 127 nL cells slots Q (up κ k 0 x, μ, o) (pc + 3) ls st) : ZZ p l e R s m args below meth c D n0 127 nL cells slots Q (κ, μ, o) pc ls (.int x :: .ref (n0 + k) :: st) := z_putf (σ1 := (up κ k 0 x, μ, o)) C 0 tyX3 (enc_V hk) (by rw [enc_V hk]; simp [up]) (fun j hj => enc_up hj) (by have := hk.2.1; omega) rfl in_X3 tyX3_ok nmX3 (by decide) wd_84 rfl rfl (ty := .boolean) (by decide +kernel) (by rcases hx with rfl | rfl <;> decide +kernel) (by rcases hx with rfl | rfl <;> decide +kernel) (Nat.le_of_ble_eq_true rfl) hd kk
theorem gf_X2_26 (C : Cx p l s m args meth c D n0 RX2 cc nL) {k : Nat} (hk : isV k) {v : Int32} (hv : κ k 0 = v) (hd : decode cc pc = .ok (.getfield 26, 3)) (kk : ZZ p l e R s m args below meth c D n0 127 nL cells slots Q (κ, μ, o) (pc + 3) ls (.int v :: st)) : ZZ p l e R s m args below meth c D n0 127 nL cells slots Q (κ, μ, o) pc ls (.ref (n0 + k) :: st) := by subst hv; exact z_getf C 0 (enc_V hk) (by have := hk.2.1; omega) rfl in_X3 (by decide) wd_85 rfl rfl hd kk
theorem pf_X2_26 (C : Cx p l s m args meth c D n0 RX2 cc nL) {k : Nat} (hk : isV k) {x : Int32} (hx : x = 0 ∨ x = 1) (hd : decode cc pc = .ok (.putfield 26, 3)) (kk : ZZ p l e R s m args below meth c D n0 127 nL cells slots Q (up κ k 0 x, μ, o) (pc + 3) ls st) : ZZ p l e R s m args below meth c D n0 127 nL cells slots Q (κ, μ, o) pc ls (.int x :: .ref (n0 + k) :: st) := z_putf (σ1 := (up κ k 0 x, μ, o)) C 0 tyX3 (enc_V hk) (by rw [enc_V hk]; simp [up]) (fun j hj => enc_up hj) (by have := hk.2.1; omega) rfl in_X3 tyX3_ok nmX3 (by decide) wd_85 rfl rfl (ty := .boolean) (by decide +kernel) (by rcases hx with rfl | rfl <;> decide +kernel) (by rcases hx with rfl | rfl <;> decide +kernel) (Nat.le_of_ble_eq_true rfl) hd kk
theorem gf_X3_28 (C : Cx p l s m args meth c D n0 RX3 cc nL) {k : Nat} (hk : isV k) {v : Int32} (hv : κ k 0 = v) (hd : decode cc pc = .ok (.getfield 28, 3)) (kk : ZZ p l e R s m args below meth c D n0 127 nL cells slots Q (κ, μ, o) (pc + 3) ls (.int v :: st)) : ZZ p l e R s m args below meth c D n0 127 nL cells slots Q (κ, μ, o) pc ls (.ref (n0 + k) :: st) := by subst hv; exact z_getf C 0 (enc_V hk) (by have := hk.2.1; omega) rfl in_X3 (by decide) wd_86 rfl rfl hd kk
theorem pf_X3_28 (C : Cx p l s m args meth c D n0 RX3 cc nL) {k : Nat} (hk : isV k) {x : Int32} (hx : x = 0 ∨ x = 1) (hd : decode cc pc = .ok (.putfield 28, 3)) (kk : ZZ p l e R s m args below meth c D n0 127 nL cells slots Q (up κ k 0 x, μ, o) (pc + 3) ls st) : ZZ p l e R s m args below meth c D n0 127 nL cells slots Q (κ, μ, o) pc ls (.int x :: .ref (n0 + k) :: st) := z_putf (σ1 := (up κ k 0 x, μ, o)) C 0 tyX3 (enc_V hk) (by rw [enc_V hk]; simp [up]) (fun j hj => enc_up hj) (by have := hk.2.1; omega) rfl in_X3 tyX3_ok nmX3 (by decide) wd_86 rfl rfl (ty := .boolean) (by decide +kernel) (by rcases hx with rfl | rfl <;> decide +kernel) (by rcases hx with rfl | rfl <;> decide +kernel) (Nat.le_of_ble_eq_true rfl) hd kk
theorem gf_X4_77 (C : Cx p l s m args meth c D n0 RX4 cc nL) {k : Nat} (hk : isV k) {v : Int32} (hv : κ k 1 = v) (hd : decode cc pc = .ok (.getfield 77, 3)) (kk : ZZ p l e R s m args below meth c D n0 127 nL cells slots Q (κ, μ, o) (pc + 3) ls (.int v :: st)) : ZZ p l e R s m args below meth c D n0 127 nL cells slots Q (κ, μ, o) pc ls (.ref (n0 + k) :: st) := by subst hv; exact z_getf C 1 (enc_V hk) (by have := hk.2.1; omega) rfl in_X3 (by decide) wd_87 rfl rfl hd kk
theorem pf_X4_77 (C : Cx p l s m args meth c D n0 RX4 cc nL) {k : Nat} (hk : isV k) {x : Int32} (hx : x = 0 ∨ x = 1) (hd : decode cc pc = .ok (.putfield 77, 3)) (kk : ZZ p l e R s m args below meth c D n0 127 nL cells slots Q (up κ k 1 x, μ, o) (pc + 3) ls st) : ZZ p l e R s m args below meth c D n0 127 nL cells slots Q (κ, μ, o) pc ls (.int x :: .ref (n0 + k) :: st) := z_putf (σ1 := (up κ k 1 x, μ, o)) C 1 tyX3 (enc_V hk) (by rw [enc_V hk]; simp [up]) (fun j hj => enc_up hj) (by have := hk.2.1; omega) rfl in_X3 tyX3_ok nmX3 (by decide) wd_87 rfl rfl (ty := .boolean) (by decide +kernel) (by rcases hx with rfl | rfl <;> decide +kernel) (by rcases hx with rfl | rfl <;> decide +kernel) (Nat.le_of_ble_eq_true rfl) hd kk
theorem gf_X2_34 (C : Cx p l s m args meth c D n0 RX2 cc nL) {k : Nat} (hk : isV k) {v : Int32} (hv : κ k 1 = v) (hd : decode cc pc = .ok (.getfield 34, 3)) (kk : ZZ p l e R s m args below meth c D n0 127 nL cells slots Q (κ, μ, o) (pc + 3) ls (.int v :: st)) : ZZ p l e R s m args below meth c D n0 127 nL cells slots Q (κ, μ, o) pc ls (.ref (n0 + k) :: st) := by subst hv; exact z_getf C 1 (enc_V hk) (by have := hk.2.1; omega) rfl in_X3 (by decide) wd_88 rfl rfl hd kk
theorem pf_X2_34 (C : Cx p l s m args meth c D n0 RX2 cc nL) {k : Nat} (hk : isV k) {x : Int32} (hx : x = 0 ∨ x = 1) (hd : decode cc pc = .ok (.putfield 34, 3)) (kk : ZZ p l e R s m args below meth c D n0 127 nL cells slots Q (up κ k 1 x, μ, o) (pc + 3) ls st) : ZZ p l e R s m args below meth c D n0 127 nL cells slots Q (κ, μ, o) pc ls (.int x :: .ref (n0 + k) :: st) := z_putf (σ1 := (up κ k 1 x, μ, o)) C 1 tyX3 (enc_V hk) (by rw [enc_V hk]; simp [up]) (fun j hj => enc_up hj) (by have := hk.2.1; omega) rfl in_X3 tyX3_ok nmX3 (by decide) wd_88 rfl rfl (ty := .boolean) (by decide +kernel) (by rcases hx with rfl | rfl <;> decide +kernel) (by rcases hx with rfl | rfl <;> decide +kernel) (Nat.le_of_ble_eq_true rfl) hd kk
theorem gf_X3_32 (C : Cx p l s m args meth c D n0 RX3 cc nL) {k : Nat} (hk : isV k) {v : Int32} (hv : κ k 1 = v) (hd : decode cc pc = .ok (.getfield 32, 3)) (kk : ZZ p l e R s m args below meth c D n0 127 nL cells slots Q (κ, μ, o) (pc + 3) ls (.int v :: st)) : ZZ p l e R s m args below meth c D n0 127 nL cells slots Q (κ, μ, o) pc ls (.ref (n0 + k) :: st) := by subst hv; exact z_getf C 1 (enc_V hk) (by have := hk.2.1; omega) rfl in_X3 (by decide) wd_89 rfl rfl hd kk
theorem pf_X3_32 (C : Cx p l s m args meth c D n0 RX3 cc nL) {k : Nat} (hk : isV k) {x : Int32} (hx : x = 0 ∨ x = 1) (hd : decode cc pc = .ok (.putfield 32, 3)) (kk : ZZ p l e R s m args below meth c D n0 127 nL cells slots Q (up κ k 1 x, μ, o) (pc + 3) ls st) : ZZ p l e R s m args below meth c D n0 127 nL cells slots Q (κ, μ, o) pc ls (.int x :: .ref (n0 + k) :: st) := z_putf (σ1 := (up κ k 1 x, μ, o)) C 1 tyX3 (enc_V hk) (by rw [enc_V hk]; simp [up]) (fun j hj => enc_up hj) (by have := hk.2.1; omega) rfl in_X3 tyX3_ok nmX3 (by decide) wd_89 rfl rfl (ty := .boolean) (by decide +kernel) (by rcases hx with rfl | rfl <;> decide +kernel) (by rcases hx with rfl | rfl <;> decide +kernel) (Nat.le_of_ble_eq_true rfl) hd kk
theorem gf_X4_74 (C : Cx p l s m args meth c D n0 RX4 cc nL) {k : Nat} (hk : isV k) {v : Int32} (hv : κ k 2 = v) (hd : decode cc pc = .ok (.getfield 74, 3)) (kk : ZZ p l e R s m args below meth c D n0 127 nL cells slots Q (κ, μ, o) (pc + 3) ls (.int v :: st)) : ZZ p l e R s m args below meth c D n0 127 nL cells slots Q (κ, μ, o) pc ls (.ref (n0 + k) :: st) := by subst hv; exact z_getf C 2 (enc_V hk) (by have := hk.2.1; omega) rfl in_X3 (by decide) wd_90 rfl rfl hd kk
theorem pf_X4_74 (C : Cx p l s m args meth c D n0 RX4 cc nL) {k : Nat} (hk : isV k) {x : Int32} (hd : decode cc pc = .ok (.putfield 74, 3)) (kk : ZZ p l e R s m args below meth c D n0 127 nL cells slots Q (up κ k 2 x, μ, o) (pc + 3) ls st) : ZZ p l e R s m args below meth c D n0 127 nL cells slots Q (κ, μ, o) pc ls (.int x :: .ref (n0 + k) :: st) := z_putf (σ1 := (up κ k 2 x, μ, o)) C 2 tyX3 (enc_V hk) (by rw [enc_V hk]; simp [up]) (fun j hj => enc_up hj) (by have := hk.2.1; omega) rfl in_X3 tyX3_ok nmX3 (by decide) wd_90 rfl rfl (ty := .int) (by decide +kernel) rfl rfl (Nat.le_of_ble_eq_true rfl) hd kk
theorem gf_X2_30 (C : Cx p l s m args meth c D n0 RX2 cc nL) {k : Nat} (hk : isV k) {v : Int32} (hv : κ k 2 = v) (hd : decode cc pc = .ok (.getfield 30, 3)) (kk : ZZ p l e R s m args below meth c D n0 127 nL cells slots Q (κ, μ, o) (pc + 3) ls (.int v :: st)) : ZZ p l e R s m args below meth c D n0 127 nL cells slots Q (κ, μ, o) pc ls (.ref (n0 + k) :: st) := by subst hv; exact z_getf C 2 (enc_V hk) (by have := hk.2.1; omega) rfl in_X3 (by decide) wd_91 rfl rfl hd kk
theorem pf_X2_30 (C : Cx p l s m args meth c D n0 RX2 cc nL) {k : Nat} (hk : isV k) {x : Int32} (hd : decode cc pc = .ok (.putfield 30, 3)) (kk : ZZ p l e R s m args below meth c D n0 127 nL cells slots Q (up κ k 2 x, μ, o) (pc + 3) ls st) : ZZ p l e R s m args below meth c D n0 127 nL cells slots Q (κ, μ, o) pc ls (.int x :: .ref (n0 + k) :: st) := z_putf (σ1 := (up κ k 2 x, μ, o)) C 2 tyX3 (enc_V hk) (by rw [enc_V hk]; simp [up]) (fun j hj => enc_up hj) (by have := hk.2.1; omega) rfl in_X3 tyX3_ok nmX3 (by decide) wd_91 rfl rfl (ty := .int) (by decide +kernel) rfl rfl (Nat.le_of_ble_eq_true rfl) hd kk
theorem gf_X3_35 (C : Cx p l s m args meth c D n0 RX3 cc nL) {k : Nat} (hk : isV k) {v : Int32} (hv : κ k 2 = v) (hd : decode cc pc = .ok (.getfield 35, 3)) (kk : ZZ p l e R s m args below meth c D n0 127 nL cells slots Q (κ, μ, o) (pc + 3) ls (.int v :: st)) : ZZ p l e R s m args below meth c D n0 127 nL cells slots Q (κ, μ, o) pc ls (.ref (n0 + k) :: st) := by subst hv; exact z_getf C 2 (enc_V hk) (by have := hk.2.1; omega) rfl in_X3 (by decide) wd_92 rfl rfl hd kk
theorem pf_X3_35 (C : Cx p l s m args meth c D n0 RX3 cc nL) {k : Nat} (hk : isV k) {x : Int32} (hd : decode cc pc = .ok (.putfield 35, 3)) (kk : ZZ p l e R s m args below meth c D n0 127 nL cells slots Q (up κ k 2 x, μ, o) (pc + 3) ls st) : ZZ p l e R s m args below meth c D n0 127 nL cells slots Q (κ, μ, o) pc ls (.int x :: .ref (n0 + k) :: st) := z_putf (σ1 := (up κ k 2 x, μ, o)) C 2 tyX3 (enc_V hk) (by rw [enc_V hk]; simp [up]) (fun j hj => enc_up hj) (by have := hk.2.1; omega) rfl in_X3 tyX3_ok nmX3 (by decide) wd_92 rfl rfl (ty := .int) (by decide +kernel) rfl rfl (Nat.le_of_ble_eq_true rfl) hd kk
theorem gf_X3_21 (C : Cx p l s m args meth c D n0 RX3 cc nL) {k : Nat} (hk : isV k) {v : Int32} (hv : κ k 3 = v) (hd : decode cc pc = .ok (.getfield 21, 3)) (kk : ZZ p l e R s m args below meth c D n0 127 nL cells slots Q (κ, μ, o) (pc + 3) ls (.int v :: st)) : ZZ p l e R s m args below meth c D n0 127 nL cells slots Q (κ, μ, o) pc ls (.ref (n0 + k) :: st) := by subst hv; exact z_getf C 3 (enc_V hk) (by have := hk.2.1; omega) rfl in_X3 (by decide) wd_93 rfl rfl hd kk
theorem pf_X3_21 (C : Cx p l s m args meth c D n0 RX3 cc nL) {k : Nat} (hk : isV k) {x : Int32} (hd : decode cc pc = .ok (.putfield 21, 3)) (kk : ZZ p l e R s m args below meth c D n0 127 nL cells slots Q (up κ k 3 x, μ, o) (pc + 3) ls st) : ZZ p l e R s m args below meth c D n0 127 nL cells slots Q (κ, μ, o) pc ls (.int x :: .ref (n0 + k) :: st) := z_putf (σ1 := (up κ k 3 x, μ, o)) C 3 tyX3 (enc_V hk) (by rw [enc_V hk]; simp [up]) (fun j hj => enc_up hj) (by have := hk.2.1; omega) rfl in_X3 tyX3_ok nmX3 (by decide) wd_93 rfl rfl (ty := .int) (by decide +kernel) rfl rfl (Nat.le_of_ble_eq_true rfl) hd kk
theorem gf_X4_80 (C : Cx p l s m args meth c D n0 RX4 cc nL) {k : Nat} (hk : isV k) {v : Int32} (hv : κ k 3 = v) (hd : decode cc pc = .ok (.getfield 80, 3)) (kk : ZZ p l e R s m args below meth c D n0 127 nL cells slots Q (κ, μ, o) (pc + 3) ls (.int v :: st)) : ZZ p l e R s m args below meth c D n0 127 nL cells slots Q (κ, μ, o) pc ls (.ref (n0 + k) :: st) := by subst hv; exact z_getf C 3 (enc_V hk) (by have := hk.2.1; omega) rfl in_X3 (by decide) wd_94 rfl rfl hd kk
theorem pf_X4_80 (C : Cx p l s m args meth c D n0 RX4 cc nL) {k : Nat} (hk : isV k) {x : Int32} (hd : decode cc pc = .ok (.putfield 80, 3)) (kk : ZZ p l e R s m args below meth c D n0 127 nL cells slots Q (up κ k 3 x, μ, o) (pc + 3) ls st) : ZZ p l e R s m args below meth c D n0 127 nL cells slots Q (κ, μ, o) pc ls (.int x :: .ref (n0 + k) :: st) := z_putf (σ1 := (up κ k 3 x, μ, o)) C 3 tyX3 (enc_V hk) (by rw [enc_V hk]; simp [up]) (fun j hj => enc_up hj) (by have := hk.2.1; omega) rfl in_X3 tyX3_ok nmX3 (by decide) wd_94 rfl rfl (ty := .int) (by decide +kernel) rfl rfl (Nat.le_of_ble_eq_true rfl) hd kk
theorem gf_X2_37 (C : Cx p l s m args meth c D n0 RX2 cc nL) {k : Nat} (hk : isV k) {v : Int32} (hv : κ k 3 = v) (hd : decode cc pc = .ok (.getfield 37, 3)) (kk : ZZ p l e R s m args below meth c D n0 127 nL cells slots Q (κ, μ, o) (pc + 3) ls (.int v :: st)) : ZZ p l e R s m args below meth c D n0 127 nL cells slots Q (κ, μ, o) pc ls (.ref (n0 + k) :: st) := by subst hv; exact z_getf C 3 (enc_V hk) (by have := hk.2.1; omega) rfl in_X3 (by decide) wd_95 rfl rfl hd kk
theorem pf_X2_37 (C : Cx p l s m args meth c D n0 RX2 cc nL) {k : Nat} (hk : isV k) {x : Int32} (hd : decode cc pc = .ok (.putfield 37, 3)) (kk : ZZ p l e R s m args below meth c D n0 127 nL cells slots Q (up κ k 3 x, μ, o) (pc + 3) ls st) : ZZ p l e R s m args below meth c D n0 127 nL cells slots Q (κ, μ, o) pc ls (.int x :: .ref (n0 + k) :: st) := z_putf (σ1 := (up κ k 3 x, μ, o)) C 3 tyX3 (enc_V hk) (by rw [enc_V hk]; simp [up]) (fun j hj => enc_up hj) (by have := hk.2.1; omega) rfl in_X3 tyX3_ok nmX3 (by decide) wd_95 rfl rfl (ty := .int) (by decide +kernel) rfl rfl (Nat.le_of_ble_eq_true rfl) hd kk
theorem gf_X3_25 (C : Cx p l s m args meth c D n0 RX3 cc nL) {k : Nat} (hk : isV k) {v : Int32} (hv : κ k 4 = v) (hd : decode cc pc = .ok (.getfield 25, 3)) (kk : ZZ p l e R s m args below meth c D n0 127 nL cells slots Q (κ, μ, o) (pc + 3) ls (.int v :: st)) : ZZ p l e R s m args below meth c D n0 127 nL cells slots Q (κ, μ, o) pc ls (.ref (n0 + k) :: st) := by subst hv; exact z_getf C 4 (enc_V hk) (by have := hk.2.1; omega) rfl in_X3 (by decide) wd_96 rfl rfl hd kk
theorem pf_X3_25 (C : Cx p l s m args meth c D n0 RX3 cc nL) {k : Nat} (hk : isV k) {x : Int32} (hd : decode cc pc = .ok (.putfield 25, 3)) (kk : ZZ p l e R s m args below meth c D n0 127 nL cells slots Q (up κ k 4 x, μ, o) (pc + 3) ls st) : ZZ p l e R s m args below meth c D n0 127 nL cells slots Q (κ, μ, o) pc ls (.int x :: .ref (n0 + k) :: st) := z_putf (σ1 := (up κ k 4 x, μ, o)) C 4 tyX3 (enc_V hk) (by rw [enc_V hk]; simp [up]) (fun j hj => enc_up hj) (by have := hk.2.1; omega) rfl in_X3 tyX3_ok nmX3 (by decide) wd_96 rfl rfl (ty := .int) (by decide +kernel) rfl rfl (Nat.le_of_ble_eq_true rfl) hd kk
theorem gf_X2_40 (C : Cx p l s m args meth c D n0 RX2 cc nL) {k : Nat} (hk : isV k) {v : Int32} (hv : κ k 4 = v) (hd : decode cc pc = .ok (.getfield 40, 3)) (kk : ZZ p l e R s m args below meth c D n0 127 nL cells slots Q (κ, μ, o) (pc + 3) ls (.int v :: st)) : ZZ p l e R s m args below meth c D n0 127 nL cells slots Q (κ, μ, o) pc ls (.ref (n0 + k) :: st) := by subst hv; exact z_getf C 4 (enc_V hk) (by have := hk.2.1; omega) rfl in_X3 (by decide) wd_97 rfl rfl hd kk
theorem pf_X2_40 (C : Cx p l s m args meth c D n0 RX2 cc nL) {k : Nat} (hk : isV k) {x : Int32} (hd : decode cc pc = .ok (.putfield 40, 3)) (kk : ZZ p l e R s m args below meth c D n0 127 nL cells slots Q (up κ k 4 x, μ, o) (pc + 3) ls st) : ZZ p l e R s m args below meth c D n0 127 nL cells slots Q (κ, μ, o) pc ls (.int x :: .ref (n0 + k) :: st) := z_putf (σ1 := (up κ k 4 x, μ, o)) C 4 tyX3 (enc_V hk) (by rw [enc_V hk]; simp [up]) (fun j hj => enc_up hj) (by have := hk.2.1; omega) rfl in_X3 tyX3_ok nmX3 (by decide) wd_97 rfl rfl (ty := .int) (by decide +kernel) rfl rfl (Nat.le_of_ble_eq_true rfl) hd kk
theorem gf_X4_238 (C : Cx p l s m args meth c D n0 RX4 cc nL) {k : Nat} (hk : isV k) {v : Int32} (hv : κ k 4 = v) (hd : decode cc pc = .ok (.getfield 238, 3)) (kk : ZZ p l e R s m args below meth c D n0 127 nL cells slots Q (κ, μ, o) (pc + 3) ls (.int v :: st)) : ZZ p l e R s m args below meth c D n0 127 nL cells slots Q (κ, μ, o) pc ls (.ref (n0 + k) :: st) := by subst hv; exact z_getf C 4 (enc_V hk) (by have := hk.2.1; omega) rfl in_X3 (by decide) wd_98 rfl rfl hd kk
theorem pf_X4_238 (C : Cx p l s m args meth c D n0 RX4 cc nL) {k : Nat} (hk : isV k) {x : Int32} (hd : decode cc pc = .ok (.putfield 238, 3)) (kk : ZZ p l e R s m args below meth c D n0 127 nL cells slots Q (up κ k 4 x, μ, o) (pc + 3) ls st) : ZZ p l e R s m args below meth c D n0 127 nL cells slots Q (κ, μ, o) pc ls (.int x :: .ref (n0 + k) :: st) := z_putf (σ1 := (up κ k 4 x, μ, o)) C 4 tyX3 (enc_V hk) (by rw [enc_V hk]; simp [up]) (fun j hj => enc_up hj) (by have := hk.2.1; omega) rfl in_X3 tyX3_ok nmX3 (by decide) wd_98 rfl rfl (ty := .int) (by decide +kernel) rfl rfl (Nat.le_of_ble_eq_true rfl) hd kk
theorem gf_X4_91 (C : Cx p l s m args meth c D n0 RX4 cc nL) {k : Nat} (hk : isV k) {v : Int32} (hv : κ k 5 = v) (hd : decode cc pc = .ok (.getfield 91, 3)) (kk : ZZ p l e R s m args below meth c D n0 127 nL cells slots Q (κ, μ, o) (pc + 3) ls (.int v :: st)) : ZZ p l e R s m args below meth c D n0 127 nL cells slots Q (κ, μ, o) pc ls (.ref (n0 + k) :: st) := by subst hv; exact z_getf C 5 (enc_V hk) (by have := hk.2.1; omega) rfl in_X3 (by decide) wd_99 rfl rfl hd kk
theorem pf_X4_91 (C : Cx p l s m args meth c D n0 RX4 cc nL) {k : Nat} (hk : isV k) {x : Int32} (hd : decode cc pc = .ok (.putfield 91, 3)) (kk : ZZ p l e R s m args below meth c D n0 127 nL cells slots Q (up κ k 5 x, μ, o) (pc + 3) ls st) : ZZ p l e R s m args below meth c D n0 127 nL cells slots Q (κ, μ, o) pc ls (.int x :: .ref (n0 + k) :: st) := z_putf (σ1 := (up κ k 5 x, μ, o)) C 5 tyX3 (enc_V hk) (by rw [enc_V hk]; simp [up]) (fun j hj => enc_up hj) (by have := hk.2.1; omega) rfl in_X3 tyX3_ok nmX3 (by decide) wd_99 rfl rfl (ty := .int) (by decide +kernel) rfl rfl (Nat.le_of_ble_eq_true rfl) hd kk
theorem gf_X3_38 (C : Cx p l s m args meth c D n0 RX3 cc nL) {k : Nat} (hk : isV k) {v : Int32} (hv : κ k 5 = v) (hd : decode cc pc = .ok (.getfield 38, 3)) (kk : ZZ p l e R s m args below meth c D n0 127 nL cells slots Q (κ, μ, o) (pc + 3) ls (.int v :: st)) : ZZ p l e R s m args below meth c D n0 127 nL cells slots Q (κ, μ, o) pc ls (.ref (n0 + k) :: st) := by subst hv; exact z_getf C 5 (enc_V hk) (by have := hk.2.1; omega) rfl in_X3 (by decide) wd_100 rfl rfl hd kk
theorem pf_X3_38 (C : Cx p l s m args meth c D n0 RX3 cc nL) {k : Nat} (hk : isV k) {x : Int32} (hd : decode cc pc = .ok (.putfield 38, 3)) (kk : ZZ p l e R s m args below meth c D n0 127 nL cells slots Q (up κ k 5 x, μ, o) (pc + 3) ls st) : ZZ p l e R s m args below meth c D n0 127 nL cells slots Q (κ, μ, o) pc ls (.int x :: .ref (n0 + k) :: st) := z_putf (σ1 := (up κ k 5 x, μ, o)) C 5 tyX3 (enc_V hk) (by rw [enc_V hk]; simp [up]) (fun j hj => enc_up hj) (by have := hk.2.1; omega) rfl in_X3 tyX3_ok nmX3 (by decide) wd_100 rfl rfl (ty := .int) (by decide +kernel) rfl rfl (Nat.le_of_ble_eq_true rfl) hd kk
theorem gf_X2_53 (C : Cx p l s m args meth c D n0 RX2 cc nL) {k : Nat} (hk : isV k) {v : Int32} (hv : κ k 5 = v) (hd : decode cc pc = .ok (.getfield 53, 3)) (kk : ZZ p l e R s m args below meth c D n0 127 nL cells slots Q (κ, μ, o) (pc + 3) ls (.int v :: st)) : ZZ p l e R s m args below meth c D n0 127 nL cells slots Q (κ, μ, o) pc ls (.ref (n0 + k) :: st) := by subst hv; exact z_getf C 5 (enc_V hk) (by have := hk.2.1; omega) rfl in_X3 (by decide) wd_101 rfl rfl hd kk
theorem pf_X2_53 (C : Cx p l s m args meth c D n0 RX2 cc nL) {k : Nat} (hk : isV k) {x : Int32} (hd : decode cc pc = .ok (.putfield 53, 3)) (kk : ZZ p l e R s m args below meth c D n0 127 nL cells slots Q (up κ k 5 x, μ, o) (pc + 3) ls st) : ZZ p l e R s m args below meth c D n0 127 nL cells slots Q (κ, μ, o) pc ls (.int x :: .ref (n0 + k) :: st) := z_putf (σ1 := (up κ k 5 x, μ, o)) C 5 tyX3 (enc_V hk) (by rw [enc_V hk]; simp [up]) (fun j hj => enc_up hj) (by have := hk.2.1; omega) rfl in_X3 tyX3_ok nmX3 (by decide) wd_101 rfl rfl (ty := .int) (by decide +kernel) rfl rfl (Nat.le_of_ble_eq_true rfl) hd kk
theorem gf_X3_9 (C : Cx p l s m args meth c D n0 RX3 cc nL) {k : Nat} (hk : isV k) (hd : decode cc pc = .ok (.getfield 9, 3)) (kk : ZZ p l e R s m args below meth c D n0 127 nL cells slots Q (κ, μ, o) (pc + 3) ls (.ref (n0 + (k + 1)) :: st)) : ZZ p l e R s m args below meth c D n0 127 nL cells slots Q (κ, μ, o) pc ls (.ref (n0 + k) :: st) := z_getf C 6 (enc_V hk) (by have := hk.2.1; omega) rfl in_X3 (by decide) wd_102 rfl rfl hd kk
theorem gf_X2_63 (C : Cx p l s m args meth c D n0 RX2 cc nL) {b : Nat} (hb : isS b) {v : Int32} (hv : κ b 0 = v) (hd : decode cc pc = .ok (.getfield 63, 3)) (kk : ZZ p l e R s m args below meth c D n0 127 nL cells slots Q (κ, μ, o) (pc + 3) ls (.int v :: st)) : ZZ p l e R s m args below meth c D n0 127 nL cells slots Q (κ, μ, o) pc ls (.ref (n0 + b) :: st) := by subst hv; exact z_getf C 0 (enc_S hb) (by rcases hb with rfl | rfl | rfl <;> decide) rfl in_X2 (by decide) wd_119 rfl rfl hd kk
theorem pf_X2_63 (C : Cx p l s m args meth c D n0 RX2 cc nL) {b : Nat} (hb : isS b) {x : Int32} (hd : decode cc pc = .ok (.putfield 63, 3)) (kk : ZZ p l e R s m args below meth c D n0 127 nL cells slots Q (up κ b 0 x, μ, o) (pc + 3) ls st) : ZZ p l e R s m args below meth c D n0 127 nL cells slots Q (κ, μ, o) pc ls (.int x :: .ref (n0 + b) :: st) := z_putf (σ1 := (up κ b 0 x, μ, o)) C 0 tyX2 (enc_S hb) (by rw [enc_S hb]; simp [up]) (fun j hj => enc_up hj) (by rcases hb with rfl | rfl | rfl <;> decide) rfl in_X2 tyX2_ok nmX2 (by decide) wd_119 rfl rfl (ty := .int) (by decide +kernel) rfl rfl (Nat.le_of_ble_eq_true rfl) hd kk
theorem gf_X4_177 (C : Cx p l s m args meth c D n0 RX4 cc nL) {b : Nat} (hb : isS b) {v : Int32} (hv : κ b 0 = v) (hd : decode cc pc = .ok (.getfield 177, 3)) (kk : ZZ p l e R s m args below meth c D n0 127 nL cells slots Q (κ, μ, o) (pc + 3) ls (.int v :: st)) : ZZ p l e R s m args below meth c D n0 127 nL cells slots Q (κ, μ, o) pc ls (.ref (n0 + b) :: st) := by subst hv; exact z_getf C 0 (enc_S hb) (by rcases hb with rfl | rfl | rfl <;> decide) rfl in_X2 (by decide) wd_120 rfl rfl hd kk
theorem pf_X4_177 (C : Cx p l s m args meth c D n0 RX4 cc nL) {b : Nat} (hb : isS b) {x : Int32} (hd : decode cc pc = .ok (.putfield 177, 3)) (kk : ZZ p l e R s m args below meth c D n0 127 nL cells slots Q (up κ b 0 x, μ, o) (pc + 3) ls st) : ZZ p l e R s m args below meth c D n0 127 nL cells slots Q (κ, μ, o) pc ls (.int x :: .ref (n0 + b) :: st) := z_putf (σ1 := (up κ b 0 x, μ, o)) C 0 tyX2 (enc_S hb) (by rw [enc_S hb]; simp [up]) (fun j hj => enc_up hj) (by rcases hb with rfl | rfl | rfl <;> decide) rfl in_X2 tyX2_ok nmX2 (by decide) wd_120 rfl rfl (ty := .int) (by decide +kernel) rfl rfl (Nat.le_of_ble_eq_true rfl) hd kk
theorem gf_X4_67 (C : Cx p l s m args meth c D n0 RX4 cc nL) {b : Nat} (hb : isS b) {v : Int32} (hv : κ b 1 = v) (hd : decode cc pc = .ok (.getfield 67, 3)) (kk : ZZ p l e R s m args below meth c D n0 127 nL cells slots Q (κ, μ, o) (pc + 3) ls (.int v :: st)) : ZZ p l e R s m args below meth c D n0 127 nL cells slots Q (κ, μ, o) pc ls (.ref (n0 + b) :: st) := by subst hv; exact z_getf C 1 (enc_S hb) (by rcases hb with rfl | rfl | rfl <;> decide) rfl in_X2 (by decide) wd_121 rfl rfl hd kk
theorem pf_X4_67 (C : Cx p l s m args meth c D n0 RX4 cc nL) {b : Nat} (hb : isS b) {x : Int32} (hd : decode cc pc = .ok (.putfield 67, 3)) (kk : ZZ p l e R s m args below meth c D n0 127 nL cells slots Q (up κ b 1 x, μ, o) (pc + 3) ls st) : ZZ p l e R s m args below meth c D n0 127 nL cells slots Q (κ, μ, o) pc ls (.int x :: .ref (n0 + b) :: st) := z_putf (σ1 := (up κ b 1 x, μ, o)) C 1 tyX2 (enc_S hb) (by rw [enc_S hb]; simp [up]) (fun j hj => enc_up hj) (by rcases hb with rfl | rfl | rfl <;> decide) rfl in_X2 tyX2_ok nmX2 (by decide) wd_121 rfl rfl (ty := .int) (by decide +kernel) rfl rfl (Nat.le_of_ble_eq_true rfl) hd kk
theorem gf_X2_43 (C : Cx p l s m args meth c D n0 RX2 cc nL) {b : Nat} (hb : isS b) {v : Int32} (hv : κ b 1 = v) (hd : decode cc pc = .ok (.getfield 43, 3)) (kk : ZZ p l e R s m args below meth c D n0 127 nL cells slots Q (κ, μ, o) (pc + 3) ls (.int v :: st)) : ZZ p l e R s m args below meth c D n0 127 nL cells slots Q (κ, μ, o) pc ls (.ref (n0 + b) :: st) := by subst hv; exact z_getf C 1 (enc_S hb) (by rcases hb with rfl | rfl | rfl <;> decide) rfl in_X2 (by decide) wd_122 rfl rfl hd kk
theorem pf_X2_43 (C : Cx p l s m args meth c D n0 RX2 cc nL) {b : Nat} (hb : isS b) {x : Int32} (hd : decode cc pc = .ok (.putfield 43, 3)) (kk : ZZ p l e R s m args below meth c D n0 127 nL cells slots Q (up κ b 1 x, μ, o) (pc + 3) ls st) : ZZ p l e R s m args below meth c D n0 127 nL cells slots Q (κ, μ, o) pc ls (.int x :: .ref (n0 + b) :: st) := z_putf (σ1 := (up κ b 1 x, μ, o)) C 1 tyX2 (enc_S hb) (by rw [enc_S hb]; simp [up]) (fun j hj => enc_up hj) (by rcases hb with rfl | rfl | rfl <;> decide) rfl in_X2 tyX2_ok nmX2 (by decide) wd_122 rfl rfl (ty := .int) (by decide +kernel) rfl rfl (Nat.le_of_ble_eq_true rfl) hd kk
theorem gf_X2_11 (C : Cx p l s m args meth c D n0 RX2 cc nL) {b : Nat} (hb : isS b) (hd : decode cc pc = .ok (.getfield 11, 3)) (kk : ZZ p l e R s m args below meth c D n0 127 nL cells slots Q (κ, μ, o) (pc + 3) ls (.ref (n0 + (b + 1)) :: st)) : ZZ p l e R s m args below meth c D n0 127 nL cells slots Q (κ, μ, o) pc ls (.ref (n0 + b) :: st) := z_getf C 2 (enc_S hb) (by rcases hb with rfl | rfl | rfl <;> decide) rfl in_X2 (by decide) wd_123 rfl rfl hd kk
theorem gf_X2_18 (C : Cx p l s m args meth c D n0 RX2 cc nL) {b : Nat} (hb : isS b) (hd : decode cc pc = .ok (.getfield 18, 3)) (kk : ZZ p l e R s m args below meth c D n0 127 nL cells slots Q (κ, μ, o) (pc + 3) ls (.ref (n0 + (b + 34)) :: st)) : ZZ p l e R s m args below meth c D n0 127 nL cells slots Q (κ, μ, o) pc ls (.ref (n0 + b) :: st) := z_getf C 3 (enc_S hb) (by rcases hb with rfl | rfl | rfl <;> decide) rfl in_X2 (by decide) wd_124 rfl rfl hd kk
theorem gf_X0_25 (C : Cx p l s m args meth c D n0 RX0 cc nL)  {v : Int32} (hv : κ 106 0 = v) (hd : decode cc pc = .ok (.getfield 25, 3)) (kk : ZZ p l e R s m args below meth c D n0 127 nL cells slots Q (κ, μ, o) (pc + 3) ls (.int v :: st)) : ZZ p l e R s m args below meth c D n0 127 nL cells slots Q (κ, μ, o) pc ls (.ref (n0 + 106) :: st) := by subst hv; exact z_getf C 0 enc_P (by decide) rfl in_X0 (by decide) wd_140 rfl rfl hd kk
theorem pf_X0_25 (C : Cx p l s m args meth c D n0 RX0 cc nL)  {x : Int32} (hd : decode cc pc = .ok (.putfield 25, 3)) (kk : ZZ p l e R s m args below meth c D n0 127 nL cells slots Q (up κ 106 0 x, μ, o) (pc + 3) ls st) : ZZ p l e R s m args below meth c D n0 127 nL cells slots Q (κ, μ, o) pc ls (.int x :: .ref (n0 + 106) :: st) := z_putf (σ1 := (up κ 106 0 x, μ, o)) C 0 tyX0 enc_P rfl (fun j hj => enc_up hj) (by decide) rfl in_X0 tyX0_ok nmX0 (by decide) wd_140 rfl rfl (ty := .int) (by decide +kernel) rfl rfl (Nat.le_of_ble_eq_true rfl) hd kk
theorem gf_X4_156 (C : Cx p l s m args meth c D n0 RX4 cc nL)  {v : Int32} (hv : κ 106 0 = v) (hd : decode cc pc = .ok (.getfield 156, 3)) (kk : ZZ p l e R s m args below meth c D n0 127 nL cells slots Q (κ, μ, o) (pc + 3) ls (.int v :: st)) : ZZ p l e R s m args below meth c D n0 127 nL cells slots Q (κ, μ, o) pc ls (.ref (n0 + 106) :: st) := by subst hv; exact z_getf C 0 enc_P (by decide) rfl in_X0 (by decide) wd_141 rfl rfl hd kk
theorem pf_X4_156 (C : Cx p l s m args meth c D n0 RX4 cc nL)  {x : Int32} (hd : decode cc pc = .ok (.putfield 156, 3)) (kk : ZZ p l e R s m args below meth c D n0 127 nL cells slots Q (up κ 106 0 x, μ, o) (pc + 3) ls st) : ZZ p l e R s m args below meth c D n0 127 nL cells slots Q (κ, μ, o) pc ls (.int x :: .ref (n0 + 106) :: st) := z_putf (σ1 := (up κ 106 0 x, μ, o)) C 0 tyX0 enc_P rfl (fun j hj => enc_up hj) (by decide) rfl in_X0 tyX0_ok nmX0 (by decide) wd_141 rfl rfl (ty := .int) (by decide +kernel) rfl rfl (Nat.le_of_ble_eq_true rfl) hd kk
theorem gf_X0_39 (C : Cx p l s m args meth c D n0 RX0 cc nL)  {v : Int32} (hv : κ 106 1 = v) (hd : decode cc pc = .ok (.getfield 39, 3)) (kk : ZZ p l e R s m args below meth c D n0 127 nL cells slots Q (κ, μ, o) (pc + 3) ls (.int v :: st)) : ZZ p l e R s m args below meth c D n0 127 nL cells slots Q (κ, μ, o) pc ls (.ref (n0 + 106) :: st) := by subst hv; exact z_getf C 1 enc_P (by decide) rfl in_X0 (by decide) wd_142 rfl rfl hd kk
theorem pf_X0_39 (C : Cx p l s m args meth c D n0 RX0 cc nL)  {x : Int32} (hd : decode cc pc = .ok (.putfield 39, 3)) (kk : ZZ p l e R s m args below meth c D n0 127 nL cells slots Q (up κ 106 1 x, μ, o) (pc + 3) ls st) : ZZ p l e R s m args below meth c D n0 127 nL cells slots Q (κ, μ, o) pc ls (.int x :: .ref (n0 + 106) :: st) := z_putf (σ1 := (up κ 106 1 x, μ, o)) C 1 tyX0 enc_P rfl (fun j hj => enc_up hj) (by decide) rfl in_X0 tyX0_ok nmX0 (by decide) wd_142 rfl rfl (ty := .int) (by decide +kernel) rfl rfl (Nat.le_of_ble_eq_true rfl) hd kk
theorem gf_X4_161 (C : Cx p l s m args meth c D n0 RX4 cc nL)  {v : Int32} (hv : κ 106 1 = v) (hd : decode cc pc = .ok (.getfield 161, 3)) (kk : ZZ p l e R s m args below meth c D n0 127 nL cells slots Q (κ, μ, o) (pc + 3) ls (.int v :: st)) : ZZ p l e R s m args below meth c D n0 127 nL cells slots Q (κ, μ, o) pc ls (.ref (n0 + 106) :: st) := by subst hv; exact z_getf C 1 enc_P (by decide) rfl in_X0 (by decide) wd_143 rfl rfl hd kk
theorem pf_X4_161 (C : Cx p l s m args meth c D n0 RX4 cc nL)  {x : Int32} (hd : decode cc pc = .ok (.putfield 161, 3)) (kk : ZZ p l e R s m args below meth c D n0 127 nL cells slots Q (up κ 106 1 x, μ, o) (pc + 3) ls st) : ZZ p l e R s m args below meth c D n0 127 nL cells slots Q (κ, μ, o) pc ls (.int x :: .ref (n0 + 106) :: st) := z_putf (σ1 := (up κ 106 1 x, μ, o)) C 1 tyX0 enc_P rfl (fun j hj => enc_up hj) (by decide) rfl in_X0 tyX0_ok nmX0 (by decide) wd_143 rfl rfl (ty := .int) (by decide +kernel) rfl rfl (Nat.le_of_ble_eq_true rfl) hd kk
theorem gf_X4_215 (C : Cx p l s m args meth c D n0 RX4 cc nL)  {v : Int32} (hv : κ 106 2 = v) (hd : decode cc pc = .ok (.getfield 215, 3)) (kk : ZZ p l e R s m args below meth c D n0 127 nL cells slots Q (κ, μ, o) (pc + 3) ls (.int v :: st)) : ZZ p l e R s m args below meth c D n0 127 nL cells slots Q (κ, μ, o) pc ls (.ref (n0 + 106) :: st) := by subst hv; exact z_getf C 2 enc_P (by decide) rfl in_X0 (by decide) wd_144 rfl rfl hd kk
theorem pf_X4_215 (C : Cx p l s m args meth c D n0 RX4 cc nL)  {x : Int32} (hd : decode cc pc = .ok (.putfield 215, 3)) (kk : ZZ p l e R s m args below meth c D n0 127 nL cells slots Q (up κ 106 2 x, μ, o) (pc + 3) ls st) : ZZ p l e R s m args below meth c D n0 127 nL cells slots Q (κ, μ, o) pc ls (.int x :: .ref (n0 + 106) :: st) := z_putf (σ1 := (up κ 106 2 x, μ, o)) C 2 tyX0 enc_P rfl (fun j hj => enc_up hj) (by decide) rfl in_X0 tyX0_ok nmX0 (by decide) wd_144 rfl rfl (ty := .int) (by decide +kernel) rfl rfl (Nat.le_of_ble_eq_true rfl) hd kk
theorem gf_X4_268 (C : Cx p l s m args meth c D n0 RX4 cc nL)  {v : Int32} (hv : κ 106 3 = v) (hd : decode cc pc = .ok (.getfield 268, 3)) (kk : ZZ p l e R s m args below meth c D n0 127 nL cells slots Q (κ, μ, o) (pc + 3) ls (.int v :: st)) : ZZ p l e R s m args below meth c D n0 127 nL cells slots Q (κ, μ, o) pc ls (.ref (n0 + 106) :: st) := by subst hv; exact z_getf C 3 enc_P (by decide) rfl in_X0 (by decide) wd_145 rfl rfl hd kk
theorem pf_X4_268 (C : Cx p l s m args meth c D n0 RX4 cc nL)  {x : Int32} (hd : decode cc pc = .ok (.putfield 268, 3)) (kk : ZZ p l e R s m args below meth c D n0 127 nL cells slots Q (up κ 106 3 x, μ, o) (pc + 3) ls st) : ZZ p l e R s m args below meth c D n0 127 nL cells slots Q (κ, μ, o) pc ls (.int x :: .ref (n0 + 106) :: st) := z_putf (σ1 := (up κ 106 3 x, μ, o)) C 3 tyX0 enc_P rfl (fun j hj => enc_up hj) (by decide) rfl in_X0 tyX0_ok nmX0 (by decide) wd_145 rfl rfl (ty := .int) (by decide +kernel) rfl rfl (Nat.le_of_ble_eq_true rfl) hd kk
theorem gf_X0_42 (C : Cx p l s m args meth c D n0 RX0 cc nL)  {v : Int32} (hv : κ 106 4 = v) (hd : decode cc pc = .ok (.getfield 42, 3)) (kk : ZZ p l e R s m args below meth c D n0 127 nL cells slots Q (κ, μ, o) (pc + 3) ls (.int v :: st)) : ZZ p l e R s m args below meth c D n0 127 nL cells slots Q (κ, μ, o) pc ls (.ref (n0 + 106) :: st) := by subst hv; exact z_getf C 4 enc_P (by decide) rfl in_X0 (by decide) wd_146 rfl rfl hd kk
theorem pf_X0_42 (C : Cx p l s m args meth c D n0 RX0 cc nL)  {x : Int32} (hd : decode cc pc = .ok (.putfield 42, 3)) (kk : ZZ p l e R s m args below meth c D n0 127 nL cells slots Q (up κ 106 4 x, μ, o) (pc + 3) ls st) : ZZ p l e R s m args below meth c D n0 127 nL cells slots Q (κ, μ, o) pc ls (.int x :: .ref (n0 + 106) :: st) := z_putf (σ1 := (up κ 106 4 x, μ, o)) C 4 tyX0 enc_P rfl (fun j hj => enc_up hj) (by decide) rfl in_X0 tyX0_ok nmX0 (by decide) wd_146 rfl rfl (ty := .int) (by decide +kernel) rfl rfl (Nat.le_of_ble_eq_true rfl) hd kk
theorem gf_X4_271 (C : Cx p l s m args meth c D n0 RX4 cc nL)  {v : Int32} (hv : κ 106 4 = v) (hd : decode cc pc = .ok (.getfield 271, 3)) (kk : ZZ p l e R s m args below meth c D n0 127 nL cells slots Q (κ, μ, o) (pc + 3) ls (.int v :: st)) : ZZ p l e R s m args below meth c D n0 127 nL cells slots Q (κ, μ, o) pc ls (.ref (n0 + 106) :: st) := by subst hv; exact z_getf C 4 enc_P (by decide) rfl in_X0 (by decide) wd_147 rfl rfl hd kk
theorem pf_X4_271 (C : Cx p l s m args meth c D n0 RX4 cc nL)  {x : Int32} (hd : decode cc pc = .ok (.putfield 271, 3)) (kk : ZZ p l e R s m args below meth c D n0 127 nL cells slots Q (up κ 106 4 x, μ, o) (pc + 3) ls st) : ZZ p l e R s m args below meth c D n0 127 nL cells slots Q (κ, μ, o) pc ls (.int x :: .ref (n0 + 106) :: st) := z_putf (σ1 := (up κ 106 4 x, μ, o)) C 4 tyX0 enc_P rfl (fun j hj => enc_up hj) (by decide) rfl in_X0 tyX0_ok nmX0 (by decide) wd_147 rfl rfl (ty := .int) (by decide +kernel) rfl rfl (Nat.le_of_ble_eq_true rfl) hd kk
theorem gf_X0_9 (C : Cx p l s m args meth c D n0 RX0 cc nL)  (hd : decode cc pc = .ok (.getfield 9, 3)) (kk : ZZ p l e R s m args below meth c D n0 127 nL cells slots Q (κ, μ, o) (pc + 3) ls (.ref (n0 + 1) :: st)) : ZZ p l e R s m args below meth c D n0 127 nL cells slots Q (κ, μ, o) pc ls (.ref (n0 + 106) :: st) := z_getf C 5 enc_P (by decide) rfl in_X0 (by decide) wd_148 rfl rfl hd kk
theorem gf_X0_15 (C : Cx p l s m args meth c D n0 RX0 cc nL)  (hd : decode cc pc = .ok (.getfield 15, 3)) (kk : ZZ p l e R s m args below meth c D n0 127 nL cells slots Q (κ, μ, o) (pc + 3) ls (.ref (n0 + 36) :: st)) : ZZ p l e R s m args below meth c D n0 127 nL cells slots Q (κ, μ, o) pc ls (.ref (n0 + 106) :: st) := z_getf C 6 enc_P (by decide) rfl in_X0 (by decide) wd_149 rfl rfl hd kk
theorem gf_X0_18 (C : Cx p l s m args meth c D n0 RX0 cc nL)  (hd : decode cc pc = .ok (.getfield 18, 3)) (kk : ZZ p l e R s m args below meth c D n0 127 nL cells slots Q (κ, μ, o) (pc + 3) ls (.ref (n0 + 71) :: st)) : ZZ p l e R s m args below meth c D n0 127 nL cells slots Q (κ, μ, o) pc ls (.ref (n0 + 106) :: st) := z_getf C 7 enc_P (by decide) rfl in_X0 (by decide) wd_150 rfl rfl hd kk
theorem gf_X0_21 (C : Cx p l s m args meth c D n0 RX0 cc nL)  (hd : decode cc pc = .ok (.getfield 21, 3)) (kk : ZZ p l e R s m args below meth c D n0 127 nL cells slots Q (κ, μ, o) (pc + 3) ls (.ref (n0 + 107) :: st)) : ZZ p l e R s m args below meth c D n0 127 nL cells slots Q (κ, μ, o) pc ls (.ref (n0 + 106) :: st) := z_getf C 8 enc_P (by decide) rfl in_X0 (by decide) wd_151 rfl rfl hd kk
theorem gf_X1_21 (C : Cx p l s m args meth c D n0 RX1 cc nL)  {v : Int32} (hv : κ 108 0 = v) (hd : decode cc pc = .ok (.getfield 21, 3)) (kk : ZZ p l e R s m args below meth c D n0 127 nL cells slots Q (κ, μ, o) (pc + 3) ls (.int v :: st)) : ZZ p l e R s m args below meth c D n0 127 nL cells slots Q (κ, μ, o) pc ls (.ref (n0 + 108) :: st) := by subst hv; exact z_getf C 0 enc_Q (by decide) rfl in_X1 (by decide) wd_177 rfl rfl hd kk
theorem pf_X1_21 (C : Cx p l s m args meth c D n0 RX1 cc nL)  {x : Int32} (hd : decode cc pc = .ok (.putfield 21, 3)) (kk : ZZ p l e R s m args below meth c D n0 127 nL cells slots Q (up κ 108 0 x, μ, o) (pc + 3) ls st) : ZZ p l e R s m args below meth c D n0 127 nL cells slots Q (κ, μ, o) pc ls (.int x :: .ref (n0 + 108) :: st) := z_putf (σ1 := (up κ 108 0 x, μ, o)) C 0 tyX1 enc_Q rfl (fun j hj => enc_up hj) (by decide) rfl in_X1 tyX1_ok nmX1 (by decide) wd_177 rfl rfl (ty := .int) (by decide +kernel) rfl rfl (Nat.le_of_ble_eq_true rfl) hd kk
theorem gf_X4_267 (C : Cx p l s m args meth c D n0 RX4 cc nL)  {v : Int32} (hv : κ 108 0 = v) (hd : decode cc pc = .ok (.getfield 267, 3)) (kk : ZZ p l e R s m args below meth c D n0 127 nL cells slots Q (κ, μ, o) (pc + 3) ls (.int v :: st)) : ZZ p l e R s m args below meth c D n0 127 nL cells slots Q (κ, μ, o) pc ls (.ref (n0 + 108) :: st) := by subst hv; exact z_getf C 0 enc_Q (by decide) rfl in_X1 (by decide) wd_178 rfl rfl hd kk
theorem pf_X4_267 (C : Cx p l s m args meth c D n0 RX4 cc nL)  {x : Int32} (hd : decode cc pc = .ok (.putfield 267, 3)) (kk : ZZ p l e R s m args below meth c D n0 127 nL cells slots Q (up κ 108 0 x, μ, o) (pc + 3) ls st) : ZZ p l e R s m args below meth c D n0 127 nL cells slots Q (κ, μ, o) pc ls (.int x :: .ref (n0 + 108) :: st) := z_putf (σ1 := (up κ 108 0 x, μ, o)) C 0 tyX1 enc_Q rfl (fun j hj => enc_up hj) (by decide) rfl in_X1 tyX1_ok nmX1 (by decide) wd_178 rfl rfl (ty := .int) (by decide +kernel) rfl rfl (Nat.le_of_ble_eq_true rfl) hd kk
theorem gf_X1_9 (C : Cx p l s m args meth c D n0 RX1 cc nL)  (hd : decode cc pc = .ok (.getfield 9, 3)) (kk : ZZ p l e R s m args below meth c D n0 127 nL cells slots Q (κ, μ, o) (pc + 3) ls (.ref (n0 + 109) :: st)) : ZZ p l e R s m args below meth c D n0 127 nL cells slots Q (κ, μ, o) pc ls (.ref (n0 + 108) :: st) := z_getf C 1 enc_Q (by decide) rfl in_X1 (by decide) wd_179 rfl rfl hd kk
theorem gf_X1_15 (C : Cx p l s m args meth c D n0 RX1 cc nL)  (hd : decode cc pc = .ok (.getfield 15, 3)) (kk : ZZ p l e R s m args below meth c D n0 127 nL cells slots Q (κ, μ, o) (pc + 3) ls (.ref (n0 + 110) :: st)) : ZZ p l e R s m args below meth c D n0 127 nL cells slots Q (κ, μ, o) pc ls (.ref (n0 + 108) :: st) := z_getf C 2 enc_Q (by decide) rfl in_X1 (by decide) wd_180 rfl rfl hd kk
theorem gf_X1_18 (C : Cx p l s m args meth c D n0 RX1 cc nL)  (hd : decode cc pc = .ok (.getfield 18, 3)) (kk : ZZ p l e R s m args below meth c D n0 127 nL cells slots Q (κ, μ, o) (pc + 3) ls (.ref (n0 + 111) :: st)) : ZZ p l e R s m args below meth c D n0 127 nL cells slots Q (κ, μ, o) pc ls (.ref (n0 + 108) :: st) := z_getf C 3 enc_Q (by decide) rfl in_X1 (by decide) wd_181 rfl rfl hd kk
theorem gf_X4_10 (C : Cx p l s m args meth c D n0 RX4 cc nL)  (hd : decode cc pc = .ok (.getfield 10, 3)) (kk : ZZ p l e R s m args below meth c D n0 127 nL cells slots Q (κ, μ, o) (pc + 3) ls (.ref (n0 + 1) :: st)) : ZZ p l e R s m args below meth c D n0 127 nL cells slots Q (κ, μ, o) pc ls (.ref (n0 + 0) :: st) := z_getf C 0 enc_0 (by decide) rfl in_X4 (by decide) wd_191 rfl rfl hd kk
theorem gf_X4_16 (C : Cx p l s m args meth c D n0 RX4 cc nL)  (hd : decode cc pc = .ok (.getfield 16, 3)) (kk : ZZ p l e R s m args below meth c D n0 127 nL cells slots Q (κ, μ, o) (pc + 3) ls (.ref (n0 + 36) :: st)) : ZZ p l e R s m args below meth c D n0 127 nL cells slots Q (κ, μ, o) pc ls (.ref (n0 + 0) :: st) := z_getf C 1 enc_0 (by decide) rfl in_X4 (by decide) wd_192 rfl rfl hd kk
theorem gf_X4_19 (C : Cx p l s m args meth c D n0 RX4 cc nL)  (hd : decode cc pc = .ok (.getfield 19, 3)) (kk : ZZ p l e R s m args below meth c D n0 127 nL cells slots Q (κ, μ, o) (pc + 3) ls (.ref (n0 + 71) :: st)) : ZZ p l e R s m args below meth c D n0 127 nL cells slots Q (κ, μ, o) pc ls (.ref (n0 + 0) :: st) := z_getf C 2 enc_0 (by decide) rfl in_X4 (by decide) wd_193 rfl rfl hd kk
theorem gf_X4_27 (C : Cx p l s m args meth c D n0 RX4 cc nL)  (hd : decode cc pc = .ok (.getfield 27, 3)) (kk : ZZ p l e R s m args below meth c D n0 127 nL cells slots Q (κ, μ, o) (pc + 3) ls (.ref (n0 + 106) :: st)) : ZZ p l e R s m args below meth c D n0 127 nL cells slots Q (κ, μ, o) pc ls (.ref (n0 + 0) :: st) := z_getf C 3 enc_0 (by decide) rfl in_X4 (by decide) wd_194 rfl rfl hd kk
theorem gf_X4_34 (C : Cx p l s m args meth c D n0 RX4 cc nL)  (hd : decode cc pc = .ok (.getfield 34, 3)) (kk : ZZ p l e R s m args below meth c D n0 127 nL cells slots Q (κ, μ, o) (pc + 3) ls (.ref (n0 + 108) :: st)) : ZZ p l e R s m args below meth c D n0 127 nL cells slots Q (κ, μ, o) pc ls (.ref (n0 + 0) :: st) := z_getf C 4 enc_0 (by decide) rfl in_X4 (by decide) wd_195 rfl rfl hd kk
theorem gf_X4_38 (C : Cx p l s m args meth c D n0 RX4 cc nL)  (hd : decode cc pc = .ok (.getfield 38, 3)) (kk : ZZ p l e R s m args below meth c D n0 127 nL cells slots Q (κ, μ, o) (pc + 3) ls (.ref (n0 + 112) :: st)) : ZZ p l e R s m args below meth c D n0 127 nL cells slots Q (κ, μ, o) pc ls (.ref (n0 + 0) :: st) := z_getf C 5 enc_0 (by decide) rfl in_X4 (by decide) wd_196 rfl rfl hd kk
theorem gf_X4_200 (C : Cx p l s m args meth c D n0 RX4 cc nL)  {v : Int32} (hv : κ 0 6 = v) (hd : decode cc pc = .ok (.getfield 200, 3)) (kk : ZZ p l e R s m args below meth c D n0 127 nL cells slots Q (κ, μ, o) (pc + 3) ls (.int v :: st)) : ZZ p l e R s m args below meth c D n0 127 nL cells slots Q (κ, μ, o) pc ls (.ref (n0 + 0) :: st) := by subst hv; exact z_getf C 6 enc_0 (by decide) rfl in_X4 (by decide) wd_197 rfl rfl hd kk
theorem pf_X4_200 (C : Cx p l s m args meth c D n0 RX4 cc nL)  {x : Int32} (hx : x = 0 ∨ x = 1) (hd : decode cc pc = .ok (.putfield 200, 3)) (kk : ZZ p l e R s m args below meth c D n0 127 nL cells slots Q (up κ 0 6 x, μ, o) (pc + 3) ls st) : ZZ p l e R s m args below meth c D n0 127 nL cells slots Q (κ, μ, o) pc ls (.int x :: .ref (n0 + 0) :: st) := z_putf (σ1 := (up κ 0 6 x, μ, o)) C 6 tyX4 enc_0 rfl (fun j hj => enc_up hj) (by decide) rfl in_X4 tyX4_ok nmX4 (by decide) wd_197 rfl rfl (ty := .boolean) (by decide +kernel) (by rcases hx with rfl | rfl <;> decide +kernel) (by rcases hx with rfl | rfl <;> decide +kernel) (Nat.le_of_ble_eq_true rfl) hd kk
theorem gf_X4_119 (C : Cx p l s m args meth c D n0 RX4 cc nL)  {v : Int32} (hv : κ 0 7 = v) (hd : decode cc pc = .ok (.getfield 119, 3)) (kk : ZZ p l e R s m args below meth c D n0 127 nL cells slots Q (κ, μ, o) (pc + 3) ls (.int v :: st)) : ZZ p l e R s m args below meth c D n0 127 nL cells slots Q (κ, μ, o) pc ls (.ref (n0 + 0) :: st) := by subst hv; exact z_getf C 7 enc_0 (by decide) rfl in_X4 (by decide) wd_198 rfl rfl hd kk
theorem pf_X4_119 (C : Cx p l s m args meth c D n0 RX4 cc nL)  {x : Int32} (hd : decode cc pc = .ok (.putfield 119, 3)) (kk : ZZ p l e R s m args below meth c D n0 127 nL cells slots Q (up κ 0 7 x, μ, o) (pc + 3) ls st) : ZZ p l e R s m args below meth c D n0 127 nL cells slots Q (κ, μ, o) pc ls (.int x :: .ref (n0 + 0) :: st) := z_putf (σ1 := (up κ 0 7 x, μ, o)) C 7 tyX4 enc_0 rfl (fun j hj => enc_up hj) (by decide) rfl in_X4 tyX4_ok nmX4 (by decide) wd_198 rfl rfl (ty := .int) (by decide +kernel) rfl rfl (Nat.le_of_ble_eq_true rfl) hd kk
theorem gf_X4_210 (C : Cx p l s m args meth c D n0 RX4 cc nL)  {v : Int32} (hv : κ 0 8 = v) (hd : decode cc pc = .ok (.getfield 210, 3)) (kk : ZZ p l e R s m args below meth c D n0 127 nL cells slots Q (κ, μ, o) (pc + 3) ls (.int v :: st)) : ZZ p l e R s m args below meth c D n0 127 nL cells slots Q (κ, μ, o) pc ls (.ref (n0 + 0) :: st) := by subst hv; exact z_getf C 8 enc_0 (by decide) rfl in_X4 (by decide) wd_199 rfl rfl hd kk
theorem pf_X4_210 (C : Cx p l s m args meth c D n0 RX4 cc nL)  {x : Int32} (hd : decode cc pc = .ok (.putfield 210, 3)) (kk : ZZ p l e R s m args below meth c D n0 127 nL cells slots Q (up κ 0 8 x, μ, o) (pc + 3) ls st) : ZZ p l e R s m args below meth c D n0 127 nL cells slots Q (κ, μ, o) pc ls (.int x :: .ref (n0 + 0) :: st) := z_putf (σ1 := (up κ 0 8 x, μ, o)) C 8 tyX4 enc_0 rfl (fun j hj => enc_up hj) (by decide) rfl in_X4 tyX4_ok nmX4 (by decide) wd_199 rfl rfl (ty := .int) (by decide +kernel) rfl rfl (Nat.le_of_ble_eq_true rfl) hd kk
theorem gf_X4_223 (C : Cx p l s m args meth c D n0 RX4 cc nL)  {v : Int32} (hv : κ 0 9 = v) (hd : decode cc pc = .ok (.getfield 223, 3)) (kk : ZZ p l e R s m args below meth c D n0 127 nL cells slots Q (κ, μ, o) (pc + 3) ls (.int v :: st)) : ZZ p l e R s m args below meth c D n0 127 nL cells slots Q (κ, μ, o) pc ls (.ref (n0 + 0) :: st) := by subst hv; exact z_getf C 9 enc_0 (by decide) rfl in_X4 (by decide) wd_200 rfl rfl hd kk
theorem pf_X4_223 (C : Cx p l s m args meth c D n0 RX4 cc nL)  {x : Int32} (hd : decode cc pc = .ok (.putfield 223, 3)) (kk : ZZ p l e R s m args below meth c D n0 127 nL cells slots Q (up κ 0 9 x, μ, o) (pc + 3) ls st) : ZZ p l e R s m args below meth c D n0 127 nL cells slots Q (κ, μ, o) pc ls (.int x :: .ref (n0 + 0) :: st) := z_putf (σ1 := (up κ 0 9 x, μ, o)) C 9 tyX4 enc_0 rfl (fun j hj => enc_up hj) (by decide) rfl in_X4 tyX4_ok nmX4 (by decide) wd_200 rfl rfl (ty := .int) (by decide +kernel) rfl rfl (Nat.le_of_ble_eq_true rfl) hd kk
theorem gf_X4_220 (C : Cx p l s m args meth c D n0 RX4 cc nL)  {v : Int32} (hv : κ 0 10 = v) (hd : decode cc pc = .ok (.getfield 220, 3)) (kk : ZZ p l e R s m args below meth c D n0 127 nL cells slots Q (κ, μ, o) (pc + 3) ls (.int v :: st)) : ZZ p l e R s m args below meth c D n0 127 nL cells slots Q (κ, μ, o) pc ls (.ref (n0 + 0) :: st) := by subst hv; exact z_getf C 10 enc_0 (by decide) rfl in_X4 (by decide) wd_201 rfl rfl hd kk
theorem pf_X4_220 (C : Cx p l s m args meth c D n0 RX4 cc nL)  {x : Int32} (hd : decode cc pc = .ok (.putfield 220, 3)) (kk : ZZ p l e R s m args below meth c D n0 127 nL cells slots Q (up κ 0 10 x, μ, o) (pc + 3) ls st) : ZZ p l e R s m args below meth c D n0 127 nL cells slots Q (κ, μ, o) pc ls (.int x :: .ref (n0 + 0) :: st) := z_putf (σ1 := (up κ 0 10 x, μ, o)) C 10 tyX4 enc_0 rfl (fun j hj => enc_up hj) (by decide) rfl in_X4 tyX4_ok nmX4 (by decide) wd_201 rfl rfl (ty := .int) (by decide +kernel) rfl rfl (Nat.le_of_ble_eq_true rfl) hd kk
theorem gf_X4_94 (C : Cx p l s m args meth c D n0 RX4 cc nL)  {v : Int32} (hv : κ 0 11 = v) (hd : decode cc pc = .ok (.getfield 94, 3)) (kk : ZZ p l e R s m args below meth c D n0 127 nL cells slots Q (κ, μ, o) (pc + 3) ls (.int v :: st)) : ZZ p l e R s m args below meth c D n0 127 nL cells slots Q (κ, μ, o) pc ls (.ref (n0 + 0) :: st) := by subst hv; exact z_getf C 11 enc_0 (by decide) rfl in_X4 (by decide) wd_202 rfl rfl hd kk
theorem pf_X4_94 (C : Cx p l s m args meth c D n0 RX4 cc nL)  {x : Int32} (hd : decode cc pc = .ok (.putfield 94, 3)) (kk : ZZ p l e R s m args below meth c D n0 127 nL cells slots Q (up κ 0 11 x, μ, o) (pc + 3) ls st) : ZZ p l e R s m args below meth c D n0 127 nL cells slots Q (κ, μ, o) pc ls (.int x :: .ref (n0 + 0) :: st) := z_putf (σ1 := (up κ 0 11 x, μ, o)) C 11 tyX4 enc_0 rfl (fun j hj => enc_up hj) (by decide) rfl in_X4 tyX4_ok nmX4 (by decide) wd_202 rfl rfl (ty := .int) (by decide +kernel) rfl rfl (Nat.le_of_ble_eq_true rfl) hd kk
theorem gf_X4_187 (C : Cx p l s m args meth c D n0 RX4 cc nL)  {v : Int32} (hv : κ 0 12 = v) (hd : decode cc pc = .ok (.getfield 187, 3)) (kk : ZZ p l e R s m args below meth c D n0 127 nL cells slots Q (κ, μ, o) (pc + 3) ls (.int v :: st)) : ZZ p l e R s m args below meth c D n0 127 nL cells slots Q (κ, μ, o) pc ls (.ref (n0 + 0) :: st) := by subst hv; exact z_getf C 12 enc_0 (by decide) rfl in_X4 (by decide) wd_203 rfl rfl hd kk
theorem pf_X4_187 (C : Cx p l s m args meth c D n0 RX4 cc nL)  {x : Int32} (hd : decode cc pc = .ok (.putfield 187, 3)) (kk : ZZ p l e R s m args below meth c D n0 127 nL cells slots Q (up κ 0 12 x, μ, o) (pc + 3) ls st) : ZZ p l e R s m args below meth c D n0 127 nL cells slots Q (κ, μ, o) pc ls (.int x :: .ref (n0 + 0) :: st) := z_putf (σ1 := (up κ 0 12 x, μ, o)) C 12 tyX4 enc_0 rfl (fun j hj => enc_up hj) (by decide) rfl in_X4 tyX4_ok nmX4 (by decide) wd_203 rfl rfl (ty := .int) (by decide +kernel) rfl rfl (Nat.le_of_ble_eq_true rfl) hd kk
theorem gf_X5_51 (C : Cx p l s m args meth c D n0 RX5 cc nL)  {v : Int32} (hv : μ 0 0 = v) (hd : decode cc pc = .ok (.getfield 51, 3)) (kk : ZZ p l e R s m args below meth c D n0 127 nL cells slots Q (κ, μ, o) (pc + 3) ls (.int v :: st)) : ZZ p l e R s m args below meth c D n0 127 nL cells slots Q (κ, μ, o) pc ls (.ref (n0 + 113) :: st) := by subst hv; exact z_getf C 0 enc_M (by decide) rfl in_X5 (by decide) wd_758 rfl rfl hd kk
theorem pf_X5_51 (C : Cx p l s m args meth c D n0 RX5 cc nL)  {x : Int32} (hd : decode cc pc = .ok (.putfield 51, 3)) (kk : ZZ p l e R s m args below meth c D n0 127 nL cells slots Q (κ, up μ 0 0 x, o) (pc + 3) ls st) : ZZ p l e R s m args below meth c D n0 127 nL cells slots Q (κ, μ, o) pc ls (.int x :: .ref (n0 + 113) :: st) := z_putf (σ1 := (κ, up μ 0 0 x, o)) C 0 tyX5 enc_M rfl (fun j hj => enc_um (by omega)) (by decide) rfl in_X5 tyX5_ok nmX5 (by decide) wd_758 rfl rfl (ty := .int) (by decide +kernel) rfl rfl (Nat.le_of_ble_eq_true rfl) hd kk
theorem gf_X5_7 (C : Cx p l s m args meth c D n0 RX5 cc nL)  (hd : decode cc pc = .ok (.getfield 7, 3)) (kk : ZZ p l e R s m args below meth c D n0 127 nL cells slots Q (κ, μ, o) (pc + 3) ls (.ref (n0 + 114) :: st)) : ZZ p l e R s m args below meth c D n0 127 nL cells slots Q (κ, μ, o) pc ls (.ref (n0 + 113) :: st) := z_getf C 1 enc_M (by decide) rfl in_X5 (by decide) wd_759 rfl rfl hd kk
theorem gf_X5_13 (C : Cx p l s m args meth c D n0 RX5 cc nL)  (hd : decode cc pc = .ok (.getfield 13, 3)) (kk : ZZ p l e R s m args below meth c D n0 127 nL cells slots Q (κ, μ, o) (pc + 3) ls (.ref (n0 + 115) :: st)) : ZZ p l e R s m args below meth c D n0 127 nL cells slots Q (κ, μ, o) pc ls (.ref (n0 + 113) :: st) := z_getf C 2 enc_M (by decide) rfl in_X5 (by decide) wd_760 rfl rfl hd kk
theorem gf_X5_17 (C : Cx p l s m args meth c D n0 RX5 cc nL)  (hd : decode cc pc = .ok (.getfield 17, 3)) (kk : ZZ p l e R s m args below meth c D n0 127 nL cells slots Q (κ, μ, o) (pc + 3) ls (.ref (n0 + 116) :: st)) : ZZ p l e R s m args below meth c D n0 127 nL cells slots Q (κ, μ, o) pc ls (.ref (n0 + 113) :: st) := z_getf C 3 enc_M (by decide) rfl in_X5 (by decide) wd_761 rfl rfl hd kk
theorem gf_X5_20 (C : Cx p l s m args meth c D n0 RX5 cc nL)  (hd : decode cc pc = .ok (.getfield 20, 3)) (kk : ZZ p l e R s m args below meth c D n0 127 nL cells slots Q (κ, μ, o) (pc + 3) ls (.ref (n0 + 117) :: st)) : ZZ p l e R s m args below meth c D n0 127 nL cells slots Q (κ, μ, o) pc ls (.ref (n0 + 113) :: st) := z_getf C 4 enc_M (by decide) rfl in_X5 (by decide) wd_762 rfl rfl hd kk
theorem gf_X5_23 (C : Cx p l s m args meth c D n0 RX5 cc nL)  (hd : decode cc pc = .ok (.getfield 23, 3)) (kk : ZZ p l e R s m args below meth c D n0 127 nL cells slots Q (κ, μ, o) (pc + 3) ls (.ref (n0 + 118) :: st)) : ZZ p l e R s m args below meth c D n0 127 nL cells slots Q (κ, μ, o) pc ls (.ref (n0 + 113) :: st) := z_getf C 5 enc_M (by decide) rfl in_X5 (by decide) wd_763 rfl rfl hd kk
theorem gf_X5_26 (C : Cx p l s m args meth c D n0 RX5 cc nL)  (hd : decode cc pc = .ok (.getfield 26, 3)) (kk : ZZ p l e R s m args below meth c D n0 127 nL cells slots Q (κ, μ, o) (pc + 3) ls (.ref (n0 + 119) :: st)) : ZZ p l e R s m args below meth c D n0 127 nL cells slots Q (κ, μ, o) pc ls (.ref (n0 + 113) :: st) := z_getf C 6 enc_M (by decide) rfl in_X5 (by decide) wd_764 rfl rfl hd kk
theorem gf_X5_29 (C : Cx p l s m args meth c D n0 RX5 cc nL)  (hd : decode cc pc = .ok (.getfield 29, 3)) (kk : ZZ p l e R s m args below meth c D n0 127 nL cells slots Q (κ, μ, o) (pc + 3) ls (.ref (n0 + 120) :: st)) : ZZ p l e R s m args below meth c D n0 127 nL cells slots Q (κ, μ, o) pc ls (.ref (n0 + 113) :: st) := z_getf C 7 enc_M (by decide) rfl in_X5 (by decide) wd_765 rfl rfl hd kk
theorem gf_X5_166 (C : Cx p l s m args meth c D n0 RX5 cc nL)  {v : Int32} (hv : μ 0 8 = v) (hd : decode cc pc = .ok (.getfield 166, 3)) (kk : ZZ p l e R s m args below meth c D n0 127 nL cells slots Q (κ, μ, o) (pc + 3) ls (.int v :: st)) : ZZ p l e R s m args below meth c D n0 127 nL cells slots Q (κ, μ, o) pc ls (.ref (n0 + 113) :: st) := by subst hv; exact z_getf C 8 enc_M (by decide) rfl in_X5 (by decide) wd_766 rfl rfl hd kk
theorem pf_X5_166 (C : Cx p l s m args meth c D n0 RX5 cc nL)  {x : Int32} (hx : x = 0 ∨ x = 1) (hd : decode cc pc = .ok (.putfield 166, 3)) (kk : ZZ p l e R s m args below meth c D n0 127 nL cells slots Q (κ, up μ 0 8 x, o) (pc + 3) ls st) : ZZ p l e R s m args below meth c D n0 127 nL cells slots Q (κ, μ, o) pc ls (.int x :: .ref (n0 + 113) :: st) := z_putf (σ1 := (κ, up μ 0 8 x, o)) C 8 tyX5 enc_M rfl (fun j hj => enc_um (by omega)) (by decide) rfl in_X5 tyX5_ok nmX5 (by decide) wd_766 rfl rfl (ty := .boolean) (by decide +kernel) (by rcases hx with rfl | rfl <;> decide +kernel) (by rcases hx with rfl | rfl <;> decide +kernel) (Nat.le_of_ble_eq_true rfl) hd kk
theorem gf_X5_32 (C : Cx p l s m args meth c D n0 RX5 cc nL)  {v : Int32} (hv : μ 0 9 = v) (hd : decode cc pc = .ok (.getfield 32, 3)) (kk : ZZ p l e R s m args below meth c D n0 127 nL cells slots Q (κ, μ, o) (pc + 3) ls (.int v :: st)) : ZZ p l e R s m args below meth c D n0 127 nL cells slots Q (κ, μ, o) pc ls (.ref (n0 + 113) :: st) := by subst hv; exact z_getf C 9 enc_M (by decide) rfl in_X5 (by decide) wd_767 rfl rfl hd kk
theorem pf_X5_32 (C : Cx p l s m args meth c D n0 RX5 cc nL)  {x : Int32} (hd : decode cc pc = .ok (.putfield 32, 3)) (kk : ZZ p l e R s m args below meth c D n0 127 nL cells slots Q (κ, up μ 0 9 x, o) (pc + 3) ls st) : ZZ p l e R s m args below meth c D n0 127 nL cells slots Q (κ, μ, o) pc ls (.int x :: .ref (n0 + 113) :: st) := z_putf (σ1 := (κ, up μ 0 9 x, o)) C 9 tyX5 enc_M rfl (fun j hj => enc_um (by omega)) (by decide) rfl in_X5 tyX5_ok nmX5 (by decide) wd_767 rfl rfl (ty := .int) (by decide +kernel) rfl rfl (Nat.le_of_ble_eq_true rfl) hd kk
theorem gf_X5_36 (C : Cx p l s m args meth c D n0 RX5 cc nL)  (hd : decode cc pc = .ok (.getfield 36, 3)) (kk : ZZ p l e R s m args below meth c D n0 127 nL cells slots Q (κ, μ, o) (pc + 3) ls (.ref (n0 + 121) :: st)) : ZZ p l e R s m args below meth c D n0 127 nL cells slots Q (κ, μ, o) pc ls (.ref (n0 + 113) :: st) := z_getf C 10 enc_M (by decide) rfl in_X5 (by decide) wd_768 rfl rfl hd kk
theorem gf_X5_39 (C : Cx p l s m args meth c D n0 RX5 cc nL)  (hd : decode cc pc = .ok (.getfield 39, 3)) (kk : ZZ p l e R s m args below meth c D n0 127 nL cells slots Q (κ, μ, o) (pc + 3) ls (.ref (n0 + 122) :: st)) : ZZ p l e R s m args below meth c D n0 127 nL cells slots Q (κ, μ, o) pc ls (.ref (n0 + 113) :: st) := z_getf C 11 enc_M (by decide) rfl in_X5 (by decide) wd_769 rfl rfl hd kk
theorem gf_X5_80 (C : Cx p l s m args meth c D n0 RX5 cc nL)  {v : Int32} (hv : μ 0 12 = v) (hd : decode cc pc = .ok (.getfield 80, 3)) (kk : ZZ p l e R s m args below meth c D n0 127 nL cells slots Q (κ, μ, o) (pc + 3) ls (.int v :: st)) : ZZ p l e R s m args below meth c D n0 127 nL cells slots Q (κ, μ, o) pc ls (.ref (n0 + 113) :: st) := by subst hv; exact z_getf C 12 enc_M (by decide) rfl in_X5 (by decide) wd_770 rfl rfl hd kk
theorem pf_X5_80 (C : Cx p l s m args meth c D n0 RX5 cc nL)  {x : Int32} (hd : decode cc pc = .ok (.putfield 80, 3)) (kk : ZZ p l e R s m args below meth c D n0 127 nL cells slots Q (κ, up μ 0 12 x, o) (pc + 3) ls st) : ZZ p l e R s m args below meth c D n0 127 nL cells slots Q (κ, μ, o) pc ls (.int x :: .ref (n0 + 113) :: st) := z_putf (σ1 := (κ, up μ 0 12 x, o)) C 12 tyX5 enc_M rfl (fun j hj => enc_um (by omega)) (by decide) rfl in_X5 tyX5_ok nmX5 (by decide) wd_770 rfl rfl (ty := .int) (by decide +kernel) rfl rfl (Nat.le_of_ble_eq_true rfl) hd kk
theorem gf_X5_96 (C : Cx p l s m args meth c D n0 RX5 cc nL)  {v : Int32} (hv : μ 0 13 = v) (hd : decode cc pc = .ok (.getfield 96, 3)) (kk : ZZ p l e R s m args below meth c D n0 127 nL cells slots Q (κ, μ, o) (pc + 3) ls (.int v :: st)) : ZZ p l e R s m args below meth c D n0 127 nL cells slots Q (κ, μ, o) pc ls (.ref (n0 + 113) :: st) := by subst hv; exact z_getf C 13 enc_M (by decide) rfl in_X5 (by decide) wd_771 rfl rfl hd kk
theorem pf_X5_96 (C : Cx p l s m args meth c D n0 RX5 cc nL)  {x : Int32} (hd : decode cc pc = .ok (.putfield 96, 3)) (kk : ZZ p l e R s m args below meth c D n0 127 nL cells slots Q (κ, up μ 0 13 x, o) (pc + 3) ls st) : ZZ p l e R s m args below meth c D n0 127 nL cells slots Q (κ, μ, o) pc ls (.int x :: .ref (n0 + 113) :: st) := z_putf (σ1 := (κ, up μ 0 13 x, o)) C 13 tyX5 enc_M rfl (fun j hj => enc_um (by omega)) (by decide) rfl in_X5 tyX5_ok nmX5 (by decide) wd_771 rfl rfl (ty := .int) (by decide +kernel) rfl rfl (Nat.le_of_ble_eq_true rfl) hd kk
theorem gf_X5_89 (C : Cx p l s m args meth c D n0 RX5 cc nL)  {v : Int32} (hv : μ 0 14 = v) (hd : decode cc pc = .ok (.getfield 89, 3)) (kk : ZZ p l e R s m args below meth c D n0 127 nL cells slots Q (κ, μ, o) (pc + 3) ls (.int v :: st)) : ZZ p l e R s m args below meth c D n0 127 nL cells slots Q (κ, μ, o) pc ls (.ref (n0 + 113) :: st) := by subst hv; exact z_getf C 14 enc_M (by decide) rfl in_X5 (by decide) wd_772 rfl rfl hd kk
theorem pf_X5_89 (C : Cx p l s m args meth c D n0 RX5 cc nL)  {x : Int32} (hd : decode cc pc = .ok (.putfield 89, 3)) (kk : ZZ p l e R s m args below meth c D n0 127 nL cells slots Q (κ, up μ 0 14 x, o) (pc + 3) ls st) : ZZ p l e R s m args below meth c D n0 127 nL cells slots Q (κ, μ, o) pc ls (.int x :: .ref (n0 + 113) :: st) := z_putf (σ1 := (κ, up μ 0 14 x, o)) C 14 tyX5 enc_M rfl (fun j hj => enc_um (by omega)) (by decide) rfl in_X5 tyX5_ok nmX5 (by decide) wd_772 rfl rfl (ty := .int) (by decide +kernel) rfl rfl (Nat.le_of_ble_eq_true rfl) hd kk
theorem gf_X5_86 (C : Cx p l s m args meth c D n0 RX5 cc nL)  {v : Int32} (hv : μ 0 15 = v) (hd : decode cc pc = .ok (.getfield 86, 3)) (kk : ZZ p l e R s m args below meth c D n0 127 nL cells slots Q (κ, μ, o) (pc + 3) ls (.int v :: st)) : ZZ p l e R s m args below meth c D n0 127 nL cells slots Q (κ, μ, o) pc ls (.ref (n0 + 113) :: st) := by subst hv; exact z_getf C 15 enc_M (by decide) rfl in_X5 (by decide) wd_773 rfl rfl hd kk
theorem pf_X5_86 (C : Cx p l s m args meth c D n0 RX5 cc nL)  {x : Int32} (hd : decode cc pc = .ok (.putfield 86, 3)) (kk : ZZ p l e R s m args below meth c D n0 127 nL cells slots Q (κ, up μ 0 15 x, o) (pc + 3) ls st) : ZZ p l e R s m args below meth c D n0 127 nL cells slots Q (κ, μ, o) pc ls (.int x :: .ref (n0 + 113) :: st) := z_putf (σ1 := (κ, up μ 0 15 x, o)) C 15 tyX5 enc_M rfl (fun j hj => enc_um (by omega)) (by decide) rfl in_X5 tyX5_ok nmX5 (by decide) wd_773 rfl rfl (ty := .int) (by decide +kernel) rfl rfl (Nat.le_of_ble_eq_true rfl) hd kk
theorem gf_X5_110 (C : Cx p l s m args meth c D n0 RX5 cc nL)  {v : Int32} (hv : μ 0 16 = v) (hd : decode cc pc = .ok (.getfield 110, 3)) (kk : ZZ p l e R s m args below meth c D n0 127 nL cells slots Q (κ, μ, o) (pc + 3) ls (.int v :: st)) : ZZ p l e R s m args below meth c D n0 127 nL cells slots Q (κ, μ, o) pc ls (.ref (n0 + 113) :: st) := by subst hv; exact z_getf C 16 enc_M (by decide) rfl in_X5 (by decide) wd_774 rfl rfl hd kk
theorem pf_X5_110 (C : Cx p l s m args meth c D n0 RX5 cc nL)  {x : Int32} (hd : decode cc pc = .ok (.putfield 110, 3)) (kk : ZZ p l e R s m args below meth c D n0 127 nL cells slots Q (κ, up μ 0 16 x, o) (pc + 3) ls st) : ZZ p l e R s m args below meth c D n0 127 nL cells slots Q (κ, μ, o) pc ls (.int x :: .ref (n0 + 113) :: st) := z_putf (σ1 := (κ, up μ 0 16 x, o)) C 16 tyX5 enc_M rfl (fun j hj => enc_um (by omega)) (by decide) rfl in_X5 tyX5_ok nmX5 (by decide) wd_774 rfl rfl (ty := .int) (by decide +kernel) rfl rfl (Nat.le_of_ble_eq_true rfl) hd kk
theorem gf_X5_135 (C : Cx p l s m args meth c D n0 RX5 cc nL)  {v : Int32} (hv : μ 0 17 = v) (hd : decode cc pc = .ok (.getfield 135, 3)) (kk : ZZ p l e R s m args below meth c D n0 127 nL cells slots Q (κ, μ, o) (pc + 3) ls (.int v :: st)) : ZZ p l e R s m args below meth c D n0 127 nL cells slots Q (κ, μ, o) pc ls (.ref (n0 + 113) :: st) := by subst hv; exact z_getf C 17 enc_M (by decide) rfl in_X5 (by decide) wd_775 rfl rfl hd kk
theorem pf_X5_135 (C : Cx p l s m args meth c D n0 RX5 cc nL)  {x : Int32} (hd : decode cc pc = .ok (.putfield 135, 3)) (kk : ZZ p l e R s m args below meth c D n0 127 nL cells slots Q (κ, up μ 0 17 x, o) (pc + 3) ls st) : ZZ p l e R s m args below meth c D n0 127 nL cells slots Q (κ, μ, o) pc ls (.int x :: .ref (n0 + 113) :: st) := z_putf (σ1 := (κ, up μ 0 17 x, o)) C 17 tyX5 enc_M rfl (fun j hj => enc_um (by omega)) (by decide) rfl in_X5 tyX5_ok nmX5 (by decide) wd_775 rfl rfl (ty := .int) (by decide +kernel) rfl rfl (Nat.le_of_ble_eq_true rfl) hd kk
theorem gf_X5_138 (C : Cx p l s m args meth c D n0 RX5 cc nL)  {v : Int32} (hv : μ 0 18 = v) (hd : decode cc pc = .ok (.getfield 138, 3)) (kk : ZZ p l e R s m args below meth c D n0 127 nL cells slots Q (κ, μ, o) (pc + 3) ls (.int v :: st)) : ZZ p l e R s m args below meth c D n0 127 nL cells slots Q (κ, μ, o) pc ls (.ref (n0 + 113) :: st) := by subst hv; exact z_getf C 18 enc_M (by decide) rfl in_X5 (by decide) wd_776 rfl rfl hd kk
theorem pf_X5_138 (C : Cx p l s m args meth c D n0 RX5 cc nL)  {x : Int32} (hd : decode cc pc = .ok (.putfield 138, 3)) (kk : ZZ p l e R s m args below meth c D n0 127 nL cells slots Q (κ, up μ 0 18 x, o) (pc + 3) ls st) : ZZ p l e R s m args below meth c D n0 127 nL cells slots Q (κ, μ, o) pc ls (.int x :: .ref (n0 + 113) :: st) := z_putf (σ1 := (κ, up μ 0 18 x, o)) C 18 tyX5 enc_M rfl (fun j hj => enc_um (by omega)) (by decide) rfl in_X5 tyX5_ok nmX5 (by decide) wd_776 rfl rfl (ty := .int) (by decide +kernel) rfl rfl (Nat.le_of_ble_eq_true rfl) hd kk
theorem gf_X5_141 (C : Cx p l s m args meth c D n0 RX5 cc nL)  {v : Int32} (hv : μ 0 19 = v) (hd : decode cc pc = .ok (.getfield 141, 3)) (kk : ZZ p l e R s m args below meth c D n0 127 nL cells slots Q (κ, μ, o) (pc + 3) ls (.int v :: st)) : ZZ p l e R s m args below meth c D n0 127 nL cells slots Q (κ, μ, o) pc ls (.ref (n0 + 113) :: st) := by subst hv; exact z_getf C 19 enc_M (by decide) rfl in_X5 (by decide) wd_777 rfl rfl hd kk
theorem pf_X5_141 (C : Cx p l s m args meth c D n0 RX5 cc nL)  {x : Int32} (hd : decode cc pc = .ok (.putfield 141, 3)) (kk : ZZ p l e R s m args below meth c D n0 127 nL cells slots Q (κ, up μ 0 19 x, o) (pc + 3) ls st) : ZZ p l e R s m args below meth c D n0 127 nL cells slots Q (κ, μ, o) pc ls (.int x :: .ref (n0 + 113) :: st) := z_putf (σ1 := (κ, up μ 0 19 x, o)) C 19 tyX5 enc_M rfl (fun j hj => enc_um (by omega)) (by decide) rfl in_X5 tyX5_ok nmX5 (by decide) wd_777 rfl rfl (ty := .int) (by decide +kernel) rfl rfl (Nat.le_of_ble_eq_true rfl) hd kk
theorem gf_X5_173 (C : Cx p l s m args meth c D n0 RX5 cc nL)  {v : Int32} (hv : μ 0 20 = v) (hd : decode cc pc = .ok (.getfield 173, 3)) (kk : ZZ p l e R s m args below meth c D n0 127 nL cells slots Q (κ, μ, o) (pc + 3) ls (.int v :: st)) : ZZ p l e R s m args below meth c D n0 127 nL cells slots Q (κ, μ, o) pc ls (.ref (n0 + 113) :: st) := by subst hv; exact z_getf C 20 enc_M (by decide) rfl in_X5 (by decide) wd_778 rfl rfl hd kk
theorem pf_X5_173 (C : Cx p l s m args meth c D n0 RX5 cc nL)  {x : Int32} (hd : decode cc pc = .ok (.putfield 173, 3)) (kk : ZZ p l e R s m args below meth c D n0 127 nL cells slots Q (κ, up μ 0 20 x, o) (pc + 3) ls st) : ZZ p l e R s m args below meth c D n0 127 nL cells slots Q (κ, μ, o) pc ls (.int x :: .ref (n0 + 113) :: st) := z_putf (σ1 := (κ, up μ 0 20 x, o)) C 20 tyX5 enc_M rfl (fun j hj => enc_um (by omega)) (by decide) rfl in_X5 tyX5_ok nmX5 (by decide) wd_778 rfl rfl (ty := .int) (by decide +kernel) rfl rfl (Nat.le_of_ble_eq_true rfl) hd kk
theorem gf_X5_116 (C : Cx p l s m args meth c D n0 RX5 cc nL)  {v : Int32} (hv : μ 0 21 = v) (hd : decode cc pc = .ok (.getfield 116, 3)) (kk : ZZ p l e R s m args below meth c D n0 127 nL cells slots Q (κ, μ, o) (pc + 3) ls (.int v :: st)) : ZZ p l e R s m args below meth c D n0 127 nL cells slots Q (κ, μ, o) pc ls (.ref (n0 + 113) :: st) := by subst hv; exact z_getf C 21 enc_M (by decide) rfl in_X5 (by decide) wd_779 rfl rfl hd kk
theorem pf_X5_116 (C : Cx p l s m args meth c D n0 RX5 cc nL)  {x : Int32} (hd : decode cc pc = .ok (.putfield 116, 3)) (kk : ZZ p l e R s m args below meth c D n0 127 nL cells slots Q (κ, up μ 0 21 x, o) (pc + 3) ls st) : ZZ p l e R s m args below meth c D n0 127 nL cells slots Q (κ, μ, o) pc ls (.int x :: .ref (n0 + 113) :: st) := z_putf (σ1 := (κ, up μ 0 21 x, o)) C 21 tyX5 enc_M rfl (fun j hj => enc_um (by omega)) (by decide) rfl in_X5 tyX5_ok nmX5 (by decide) wd_779 rfl rfl (ty := .int) (by decide +kernel) rfl rfl (Nat.le_of_ble_eq_true rfl) hd kk
theorem gf_X5_163 (C : Cx p l s m args meth c D n0 RX5 cc nL)  {v : Int32} (hv : μ 0 22 = v) (hd : decode cc pc = .ok (.getfield 163, 3)) (kk : ZZ p l e R s m args below meth c D n0 127 nL cells slots Q (κ, μ, o) (pc + 3) ls (.int v :: st)) : ZZ p l e R s m args below meth c D n0 127 nL cells slots Q (κ, μ, o) pc ls (.ref (n0 + 113) :: st) := by subst hv; exact z_getf C 22 enc_M (by decide) rfl in_X5 (by decide) wd_780 rfl rfl hd kk
theorem pf_X5_163 (C : Cx p l s m args meth c D n0 RX5 cc nL)  {x : Int32} (hd : decode cc pc = .ok (.putfield 163, 3)) (kk : ZZ p l e R s m args below meth c D n0 127 nL cells slots Q (κ, up μ 0 22 x, o) (pc + 3) ls st) : ZZ p l e R s m args below meth c D n0 127 nL cells slots Q (κ, μ, o) pc ls (.int x :: .ref (n0 + 113) :: st) := z_putf (σ1 := (κ, up μ 0 22 x, o)) C 22 tyX5 enc_M rfl (fun j hj => enc_um (by omega)) (by decide) rfl in_X5 tyX5_ok nmX5 (by decide) wd_780 rfl rfl (ty := .int) (by decide +kernel) rfl rfl (Nat.le_of_ble_eq_true rfl) hd kk
theorem gf_X5_107 (C : Cx p l s m args meth c D n0 RX5 cc nL)  {v : Int32} (hv : μ 0 23 = v) (hd : decode cc pc = .ok (.getfield 107, 3)) (kk : ZZ p l e R s m args below meth c D n0 127 nL cells slots Q (κ, μ, o) (pc + 3) ls (.int v :: st)) : ZZ p l e R s m args below meth c D n0 127 nL cells slots Q (κ, μ, o) pc ls (.ref (n0 + 113) :: st) := by subst hv; exact z_getf C 23 enc_M (by decide) rfl in_X5 (by decide) wd_781 rfl rfl hd kk
theorem pf_X5_107 (C : Cx p l s m args meth c D n0 RX5 cc nL)  {x : Int32} (hd : decode cc pc = .ok (.putfield 107, 3)) (kk : ZZ p l e R s m args below meth c D n0 127 nL cells slots Q (κ, up μ 0 23 x, o) (pc + 3) ls st) : ZZ p l e R s m args below meth c D n0 127 nL cells slots Q (κ, μ, o) pc ls (.int x :: .ref (n0 + 113) :: st) := z_putf (σ1 := (κ, up μ 0 23 x, o)) C 23 tyX5 enc_M rfl (fun j hj => enc_um (by omega)) (by decide) rfl in_X5 tyX5_ok nmX5 (by decide) wd_781 rfl rfl (ty := .int) (by decide +kernel) rfl rfl (Nat.le_of_ble_eq_true rfl) hd kk
theorem gf_X5_42 (C : Cx p l s m args meth c D n0 RX5 cc nL)  (hd : decode cc pc = .ok (.getfield 42, 3)) (kk : ZZ p l e R s m args below meth c D n0 127 nL cells slots Q (κ, μ, o) (pc + 3) ls (.ref (n0 + 123) :: st)) : ZZ p l e R s m args below meth c D n0 127 nL cells slots Q (κ, μ, o) pc ls (.ref (n0 + 113) :: st) := z_getf C 24 enc_M (by decide) rfl in_X5 (by decide) wd_782 rfl rfl hd kk
theorem gf_X5_45 (C : Cx p l s m args meth c D n0 RX5 cc nL)  (hd : decode cc pc = .ok (.getfield 45, 3)) (kk : ZZ p l e R s m args below meth c D n0 127 nL cells slots Q (κ, μ, o) (pc + 3) ls (.ref (n0 + 124) :: st)) : ZZ p l e R s m args below meth c D n0 127 nL cells slots Q (κ, μ, o) pc ls (.ref (n0 + 113) :: st) := z_getf C 25 enc_M (by decide) rfl in_X5 (by decide) wd_783 rfl rfl hd kk
theorem gf_X5_48 (C : Cx p l s m args meth c D n0 RX5 cc nL)  (hd : decode cc pc = .ok (.getfield 48, 3)) (kk : ZZ p l e R s m args below meth c D n0 127 nL cells slots Q (κ, μ, o) (pc + 3) ls (.ref (n0 + 125) :: st)) : ZZ p l e R s m args below meth c D n0 127 nL cells slots Q (κ, μ, o) pc ls (.ref (n0 + 113) :: st) := z_getf C 26 enc_M (by decide) rfl in_X5 (by decide) wd_784 rfl rfl hd kk
theorem al_107 (C : Cx p l s m args meth c D n0 own cc nL) {i v : Int32} (j : Nat) (hij : i = nI j) (hj : j < 384) (hv : κ 107 j = v) (hd : decode cc pc = .ok (.iaload, 1)) (kk : ZZ p l e R s m args below meth c D n0 127 nL cells slots Q (κ, μ, o) (pc + 1) ls (.int v :: st)) : ZZ p l e R s m args below meth c D n0 127 nL cells slots Q (κ, μ, o) pc ls (.int i :: .ref (n0 + 107) :: st) := by subst hv; exact z_iald C j enc_107 (by decide) hij hj (by decide) hd kk
theorem as_107 (C : Cx p l s m args meth c D n0 own cc nL) {i x : Int32} (j : Nat) (hij : i = nI j) (hj : j < 384) (hd : decode cc pc = .ok (.iastore, 1)) (kk : ZZ p l e R s m args below meth c D n0 127 nL cells slots Q (up κ 107 j x, μ, o) (pc + 1) ls st) : ZZ p l e R s m args below meth c D n0 127 nL cells slots Q (κ, μ, o) pc ls (.int x :: .int i :: .ref (n0 + 107) :: st) := z_iast (σ1 := (up κ 107 j x, μ, o)) C j enc_107 (by rw [enc_107, up_upd]) (fun j hj => enc_up hj) (by decide) hij hj (by decide) hd kk
theorem an_107 (C : Cx p l s m args meth c D n0 own cc nL) (hd : decode cc pc = .ok (.arraylength, 1)) (kk : ZZ p l e R s m args below meth c D n0 127 nL cells slots Q (κ, μ, o) (pc + 1) ls (.int 384 :: st)) : ZZ p l e R s m args below meth c D n0 127 nL cells slots Q (κ, μ, o) pc ls (.ref (n0 + 107) :: st) := z_alen C 0 enc_107 rfl (by decide) rfl hd kk
theorem al_109 (C : Cx p l s m args meth c D n0 own cc nL) {i v : Int32} (j : Nat) (hij : i = nI j) (hj : j < 8) (hv : κ 109 j = v) (hd : decode cc pc = .ok (.iaload, 1)) (kk : ZZ p l e R s m args below meth c D n0 127 nL cells slots Q (κ, μ, o) (pc + 1) ls (.int v :: st)) : ZZ p l e R s m args below meth c D n0 127 nL cells slots Q (κ, μ, o) pc ls (.int i :: .ref (n0 + 109) :: st) := by subst hv; exact z_iald C j enc_109 (by decide) hij hj (by decide) hd kk
theorem as_109 (C : Cx p l s m args meth c D n0 own cc nL) {i x : Int32} (j : Nat) (hij : i = nI j) (hj : j < 8) (hd : decode cc pc = .ok (.iastore, 1)) (kk : ZZ p l e R s m args below meth c D n0 127 nL cells slots Q (up κ 109 j x, μ, o) (pc + 1) ls st) : ZZ p l e R s m args below meth c D n0 127 nL cells slots Q (κ, μ, o) pc ls (.int x :: .int i :: .ref (n0 + 109) :: st) := z_iast (σ1 := (up κ 109 j x, μ, o)) C j enc_109 (by rw [enc_109, up_upd]) (fun j hj => enc_up hj) (by decide) hij hj (by decide) hd kk
theorem an_109 (C : Cx p l s m args meth c D n0 own cc nL) (hd : decode cc pc = .ok (.arraylength, 1)) (kk : ZZ p l e R s m args below meth c D n0 127 nL cells slots Q (κ, μ, o) (pc + 1) ls (.int 8 :: st)) : ZZ p l e R s m args below meth c D n0 127 nL cells slots Q (κ, μ, o) pc ls (.ref (n0 + 109) :: st) := z_alen C 0 enc_109 rfl (by decide) rfl hd kk
theorem al_110 (C : Cx p l s m args meth c D n0 own cc nL) {i v : Int32} (j : Nat) (hij : i = nI j) (hj : j < 8) (hv : κ 110 j = v) (hd : decode cc pc = .ok (.iaload, 1)) (kk : ZZ p l e R s m args below meth c D n0 127 nL cells slots Q (κ, μ, o) (pc + 1) ls (.int v :: st)) : ZZ p l e R s m args below meth c D n0 127 nL cells slots Q (κ, μ, o) pc ls (.int i :: .ref (n0 + 110) :: st) := by subst hv; exact z_iald C j enc_110 (by decide) hij hj (by decide) hd kk
theorem as_110 (C : Cx p l s m args meth c D n0 own cc nL) {i x : Int32} (j : Nat) (hij : i = nI j) (hj : j < 8) (hd : decode cc pc = .ok (.iastore, 1)) (kk : ZZ p l e R s m args below meth c D n0 127 nL cells slots Q (up κ 110 j x, μ, o) (pc + 1) ls st) : ZZ p l e R s m args below meth c D n0 127 nL cells slots Q (κ, μ, o) pc ls (.int x :: .int i :: .ref (n0 + 110) :: st) := z_iast (σ1 := (up κ 110 j x, μ, o)) C j enc_110 (by rw [enc_110, up_upd]) (fun j hj => enc_up hj) (by decide) hij hj (by decide) hd kk
theorem an_110 (C : Cx p l s m args meth c D n0 own cc nL) (hd : decode cc pc = .ok (.arraylength, 1)) (kk : ZZ p l e R s m args below meth c D n0 127 nL cells slots Q (κ, μ, o) (pc + 1) ls (.int 8 :: st)) : ZZ p l e R s m args below meth c D n0 127 nL cells slots Q (κ, μ, o) pc ls (.ref (n0 + 110) :: st) := z_alen C 0 enc_110 rfl (by decide) rfl hd kk
theorem al_111 (C : Cx p l s m args meth c D n0 own cc nL) {i v : Int32} (j : Nat) (hij : i = nI j) (hj : j < 8) (hv : κ 111 j = v) (hd : decode cc pc = .ok (.iaload, 1)) (kk : ZZ p l e R s m args below meth c D n0 127 nL cells slots Q (κ, μ, o) (pc + 1) ls (.int v :: st)) : ZZ p l e R s m args below meth c D n0 127 nL cells slots Q (κ, μ, o) pc ls (.int i :: .ref (n0 + 111) :: st) := by subst hv; exact z_iald C j enc_111 (by decide) hij hj (by decide) hd kk
theorem as_111 (C : Cx p l s m args meth c D n0 own cc nL) {i x : Int32} (j : Nat) (hij : i = nI j) (hj : j < 8) (hd : decode cc pc = .ok (.iastore, 1)) (kk : ZZ p l e R s m args below meth c D n0 127 nL cells slots Q (up κ 111 j x, μ, o) (pc + 1) ls st) : ZZ p l e R s m args below meth c D n0 127 nL cells slots Q (κ, μ, o) pc ls (.int x :: .int i :: .ref (n0 + 111) :: st) := z_iast (σ1 := (up κ 111 j x, μ, o)) C j enc_111 (by rw [enc_111, up_upd]) (fun j hj => enc_up hj) (by decide) hij hj (by decide) hd kk
theorem an_111 (C : Cx p l s m args meth c D n0 own cc nL) (hd : decode cc pc = .ok (.arraylength, 1)) (kk : ZZ p l e R s m args below meth c D n0 127 nL cells slots Q (κ, μ, o) (pc + 1) ls (.int 8 :: st)) : ZZ p l e R s m args below meth c D n0 127 nL cells slots Q (κ, μ, o) pc ls (.ref (n0 + 111) :: st) := z_alen C 0 enc_111 rfl (by decide) rfl hd kk
theorem al_112 (C : Cx p l s m args meth c D n0 own cc nL) {i v : Int32} (j : Nat) (hij : i = nI j) (hj : j < 160) (hv : κ 112 j = v) (hd : decode cc pc = .ok (.iaload, 1)) (kk : ZZ p l e R s m args below meth c D n0 127 nL cells slots Q (κ, μ, o) (pc + 1) ls (.int v :: st)) : ZZ p l e R s m args below meth c D n0 127 nL cells slots Q (κ, μ, o) pc ls (.int i :: .ref (n0 + 112) :: st) := by subst hv; exact z_iald C j enc_112 (by decide) hij hj (by decide) hd kk
theorem as_112 (C : Cx p l s m args meth c D n0 own cc nL) {i x : Int32} (j : Nat) (hij : i = nI j) (hj : j < 160) (hd : decode cc pc = .ok (.iastore, 1)) (kk : ZZ p l e R s m args below meth c D n0 127 nL cells slots Q (up κ 112 j x, μ, o) (pc + 1) ls st) : ZZ p l e R s m args below meth c D n0 127 nL cells slots Q (κ, μ, o) pc ls (.int x :: .int i :: .ref (n0 + 112) :: st) := z_iast (σ1 := (up κ 112 j x, μ, o)) C j enc_112 (by rw [enc_112, up_upd]) (fun j hj => enc_up hj) (by decide) hij hj (by decide) hd kk
theorem an_112 (C : Cx p l s m args meth c D n0 own cc nL) (hd : decode cc pc = .ok (.arraylength, 1)) (kk : ZZ p l e R s m args below meth c D n0 127 nL cells slots Q (κ, μ, o) (pc + 1) ls (.int 160 :: st)) : ZZ p l e R s m args below meth c D n0 127 nL cells slots Q (κ, μ, o) pc ls (.ref (n0 + 112) :: st) := z_alen C 0 enc_112 rfl (by decide) rfl hd kk
theorem al_U (C : Cx p l s m args meth c D n0 own cc nL) {b : Nat} (hb : isS b) {i v : Int32} (j : Nat) (hij : i = nI j) (hj : j < 96) (hv : κ (b + 34) j = v) (hd : decode cc pc = .ok (.iaload, 1)) (kk : ZZ p l e R s m args below meth c D n0 127 nL cells slots Q (κ, μ, o) (pc + 1) ls (.int v :: st)) : ZZ p l e R s m args below meth c D n0 127 nL cells slots Q (κ, μ, o) pc ls (.int i :: .ref (n0 + (b + 34)) :: st) := by subst hv; exact z_iald C j (enc_SU hb) (by rcases hb with rfl | rfl | rfl <;> decide) hij hj (by decide) hd kk
theorem as_U (C : Cx p l s m args meth c D n0 own cc nL) {b : Nat} (hb : isS b) {i x : Int32} (j : Nat) (hij : i = nI j) (hj : j < 96) (hd : decode cc pc = .ok (.iastore, 1)) (kk : ZZ p l e R s m args below meth c D n0 127 nL cells slots Q (up κ (b + 34) j x, μ, o) (pc + 1) ls st) : ZZ p l e R s m args below meth c D n0 127 nL cells slots Q (κ, μ, o) pc ls (.int x :: .int i :: .ref (n0 + (b + 34)) :: st) := z_iast (σ1 := (up κ (b + 34) j x, μ, o)) C j (enc_SU hb) (by rw [enc_SU hb, up_upd]) (fun j hj => enc_up hj) (by rcases hb with rfl | rfl | rfl <;> decide) hij hj (by decide) hd kk
theorem an_U (C : Cx p l s m args meth c D n0 own cc nL) {b : Nat} (hb : isS b) (hd : decode cc pc = .ok (.arraylength, 1)) (kk : ZZ p l e R s m args below meth c D n0 127 nL cells slots Q (κ, μ, o) (pc + 1) ls (.int 96 :: st)) : ZZ p l e R s m args below meth c D n0 127 nL cells slots Q (κ, μ, o) pc ls (.ref (n0 + (b + 34)) :: st) := z_alen C 0 (enc_SU hb) rfl (by rcases hb with rfl | rfl | rfl <;> decide) rfl hd kk
theorem al_E (C : Cx p l s m args meth c D n0 own cc nL) {k : Nat} (hk : isV k) {i v : Int32} (j : Nat) (hij : i = nI j) (hj : j < 40) (hv : κ (k + 1) j = v) (hd : decode cc pc = .ok (.iaload, 1)) (kk : ZZ p l e R s m args below meth c D n0 127 nL cells slots Q (κ, μ, o) (pc + 1) ls (.int v :: st)) : ZZ p l e R s m args below meth c D n0 127 nL cells slots Q (κ, μ, o) pc ls (.int i :: .ref (n0 + (k + 1)) :: st) := by subst hv; exact z_iald C j (enc_E hk) (by have := hk.2.1; omega) hij hj (by decide) hd kk
theorem as_E (C : Cx p l s m args meth c D n0 own cc nL) {k : Nat} (hk : isV k) {i x : Int32} (j : Nat) (hij : i = nI j) (hj : j < 40) (hd : decode cc pc = .ok (.iastore, 1)) (kk : ZZ p l e R s m args below meth c D n0 127 nL cells slots Q (up κ (k + 1) j x, μ, o) (pc + 1) ls st) : ZZ p l e R s m args below meth c D n0 127 nL cells slots Q (κ, μ, o) pc ls (.int x :: .int i :: .ref (n0 + (k + 1)) :: st) := z_iast (σ1 := (up κ (k + 1) j x, μ, o)) C j (enc_E hk) (by rw [enc_E hk, up_upd]) (fun j hj => enc_up hj) (by have := hk.2.1; omega) hij hj (by decide) hd kk
theorem an_E (C : Cx p l s m args meth c D n0 own cc nL) {k : Nat} (hk : isV k) (hd : decode cc pc = .ok (.arraylength, 1)) (kk : ZZ p l e R s m args below meth c D n0 127 nL cells slots Q (κ, μ, o) (pc + 1) ls (.int 40 :: st)) : ZZ p l e R s m args below meth c D n0 127 nL cells slots Q (κ, μ, o) pc ls (.ref (n0 + (k + 1)) :: st) := z_alen C 0 (enc_E hk) rfl (by have := hk.2.1; omega) rfl hd kk
theorem an_SV (C : Cx p l s m args meth c D n0 own cc nL) {b : Nat} (hb : isS b) (hd : decode cc pc = .ok (.arraylength, 1)) (kk : ZZ p l e R s m args below meth c D n0 127 nL cells slots Q (κ, μ, o) (pc + 1) ls (.int 16 :: st)) : ZZ p l e R s m args below meth c D n0 127 nL cells slots Q (κ, μ, o) pc ls (.ref (n0 + (b + 1)) :: st) := z_alen C 2 (enc_SV hb) rfl (by rcases hb with rfl | rfl | rfl <;> decide) rfl hd kk
theorem al_114 (C : Cx p l s m args meth c D n0 own cc nL) {i v : Int32} (j : Nat) (hij : i = nI j) (hj : j < 48) (hv : μ 1 j = v) (hd : decode cc pc = .ok (.baload, 1)) (kk : ZZ p l e R s m args below meth c D n0 127 nL cells slots Q (κ, μ, o) (pc + 1) ls (.int v :: st)) : ZZ p l e R s m args below meth c D n0 127 nL cells slots Q (κ, μ, o) pc ls (.int i :: .ref (n0 + 114) :: st) := by subst hv; exact z_bald C j enc_114 (by decide) hij hj (by decide) hd kk
theorem as_114 (C : Cx p l s m args meth c D n0 own cc nL) {i x : Int32} (j : Nat) (hx : x = 0 ∨ x = 1) (hij : i = nI j) (hj : j < 48) (hd : decode cc pc = .ok (.bastore, 1)) (kk : ZZ p l e R s m args below meth c D n0 127 nL cells slots Q (κ, up μ 1 j x, o) (pc + 1) ls st) : ZZ p l e R s m args below meth c D n0 127 nL cells slots Q (κ, μ, o) pc ls (.int x :: .int i :: .ref (n0 + 114) :: st) := z_bast (σ1 := (κ, up μ 1 j x, o)) C j enc_114 (by rw [enc_114, up_upd]) (fun j hj => enc_um (by omega)) hx (by decide) hij hj (by decide) hd kk
theorem al_115 (C : Cx p l s m args meth c D n0 own cc nL) {i v : Int32} (j : Nat) (hij : i = nI j) (hj : j < 48) (hv : μ 2 j = v) (hd : decode cc pc = .ok (.iaload, 1)) (kk : ZZ p l e R s m args below meth c D n0 127 nL cells slots Q (κ, μ, o) (pc + 1) ls (.int v :: st)) : ZZ p l e R s m args below meth c D n0 127 nL cells slots Q (κ, μ, o) pc ls (.int i :: .ref (n0 + 115) :: st) := by subst hv; exact z_iald C j enc_115 (by decide) hij hj (by decide) hd kk
theorem as_115 (C : Cx p l s m args meth c D n0 own cc nL) {i x : Int32} (j : Nat) (hij : i = nI j) (hj : j < 48) (hd : decode cc pc = .ok (.iastore, 1)) (kk : ZZ p l e R s m args below meth c D n0 127 nL cells slots Q (κ, up μ 2 j x, o) (pc + 1) ls st) : ZZ p l e R s m args below meth c D n0 127 nL cells slots Q (κ, μ, o) pc ls (.int x :: .int i :: .ref (n0 + 115) :: st) := z_iast (σ1 := (κ, up μ 2 j x, o)) C j enc_115 (by rw [enc_115, up_upd]) (fun j hj => enc_um (by omega)) (by decide) hij hj (by decide) hd kk
theorem al_116 (C : Cx p l s m args meth c D n0 own cc nL) {i v : Int32} (j : Nat) (hij : i = nI j) (hj : j < 48) (hv : μ 3 j = v) (hd : decode cc pc = .ok (.baload, 1)) (kk : ZZ p l e R s m args below meth c D n0 127 nL cells slots Q (κ, μ, o) (pc + 1) ls (.int v :: st)) : ZZ p l e R s m args below meth c D n0 127 nL cells slots Q (κ, μ, o) pc ls (.int i :: .ref (n0 + 116) :: st) := by subst hv; exact z_bald C j enc_116 (by decide) hij hj (by decide) hd kk
theorem as_116 (C : Cx p l s m args meth c D n0 own cc nL) {i x : Int32} (j : Nat) (hx : x = 0 ∨ x = 1) (hij : i = nI j) (hj : j < 48) (hd : decode cc pc = .ok (.bastore, 1)) (kk : ZZ p l e R s m args below meth c D n0 127 nL cells slots Q (κ, up μ 3 j x, o) (pc + 1) ls st) : ZZ p l e R s m args below meth c D n0 127 nL cells slots Q (κ, μ, o) pc ls (.int x :: .int i :: .ref (n0 + 116) :: st) := z_bast (σ1 := (κ, up μ 3 j x, o)) C j enc_116 (by rw [enc_116, up_upd]) (fun j hj => enc_um (by omega)) hx (by decide) hij hj (by decide) hd kk
theorem al_117 (C : Cx p l s m args meth c D n0 own cc nL) {i v : Int32} (j : Nat) (hij : i = nI j) (hj : j < 48) (hv : μ 4 j = v) (hd : decode cc pc = .ok (.iaload, 1)) (kk : ZZ p l e R s m args below meth c D n0 127 nL cells slots Q (κ, μ, o) (pc + 1) ls (.int v :: st)) : ZZ p l e R s m args below meth c D n0 127 nL cells slots Q (κ, μ, o) pc ls (.int i :: .ref (n0 + 117) :: st) := by subst hv; exact z_iald C j enc_117 (by decide) hij hj (by decide) hd kk
theorem as_117 (C : Cx p l s m args meth c D n0 own cc nL) {i x : Int32} (j : Nat) (hij : i = nI j) (hj : j < 48) (hd : decode cc pc = .ok (.iastore, 1)) (kk : ZZ p l e R s m args below meth c D n0 127 nL cells slots Q (κ, up μ 4 j x, o) (pc + 1) ls st) : ZZ p l e R s m args below meth c D n0 127 nL cells slots Q (κ, μ, o) pc ls (.int x :: .int i :: .ref (n0 + 117) :: st) := z_iast (σ1 := (κ, up μ 4 j x, o)) C j enc_117 (by rw [enc_117, up_upd]) (fun j hj => enc_um (by omega)) (by decide) hij hj (by decide) hd kk
theorem al_118 (C : Cx p l s m args meth c D n0 own cc nL) {i v : Int32} (j : Nat) (hij : i = nI j) (hj : j < 48) (hv : μ 5 j = v) (hd : decode cc pc = .ok (.iaload, 1)) (kk : ZZ p l e R s m args below meth c D n0 127 nL cells slots Q (κ, μ, o) (pc + 1) ls (.int v :: st)) : ZZ p l e R s m args below meth c D n0 127 nL cells slots Q (κ, μ, o) pc ls (.int i :: .ref (n0 + 118) :: st) := by subst hv; exact z_iald C j enc_118 (by decide) hij hj (by decide) hd kk
theorem as_118 (C : Cx p l s m args meth c D n0 own cc nL) {i x : Int32} (j : Nat) (hij : i = nI j) (hj : j < 48) (hd : decode cc pc = .ok (.iastore, 1)) (kk : ZZ p l e R s m args below meth c D n0 127 nL cells slots Q (κ, up μ 5 j x, o) (pc + 1) ls st) : ZZ p l e R s m args below meth c D n0 127 nL cells slots Q (κ, μ, o) pc ls (.int x :: .int i :: .ref (n0 + 118) :: st) := z_iast (σ1 := (κ, up μ 5 j x, o)) C j enc_118 (by rw [enc_118, up_upd]) (fun j hj => enc_um (by omega)) (by decide) hij hj (by decide) hd kk
theorem al_119 (C : Cx p l s m args meth c D n0 own cc nL) {i v : Int32} (j : Nat) (hij : i = nI j) (hj : j < 1920) (hv : μ 6 j = v) (hd : decode cc pc = .ok (.iaload, 1)) (kk : ZZ p l e R s m args below meth c D n0 127 nL cells slots Q (κ, μ, o) (pc + 1) ls (.int v :: st)) : ZZ p l e R s m args below meth c D n0 127 nL cells slots Q (κ, μ, o) pc ls (.int i :: .ref (n0 + 119) :: st) := by subst hv; exact z_iald C j enc_119 (by decide) hij hj (by decide) hd kk
theorem as_119 (C : Cx p l s m args meth c D n0 own cc nL) {i x : Int32} (j : Nat) (hij : i = nI j) (hj : j < 1920) (hd : decode cc pc = .ok (.iastore, 1)) (kk : ZZ p l e R s m args below meth c D n0 127 nL cells slots Q (κ, up μ 6 j x, o) (pc + 1) ls st) : ZZ p l e R s m args below meth c D n0 127 nL cells slots Q (κ, μ, o) pc ls (.int x :: .int i :: .ref (n0 + 119) :: st) := z_iast (σ1 := (κ, up μ 6 j x, o)) C j enc_119 (by rw [enc_119, up_upd]) (fun j hj => enc_um (by omega)) (by decide) hij hj (by decide) hd kk
theorem al_120 (C : Cx p l s m args meth c D n0 own cc nL) {i v : Int32} (j : Nat) (hij : i = nI j) (hj : j < 3) (hv : μ 7 j = v) (hd : decode cc pc = .ok (.iaload, 1)) (kk : ZZ p l e R s m args below meth c D n0 127 nL cells slots Q (κ, μ, o) (pc + 1) ls (.int v :: st)) : ZZ p l e R s m args below meth c D n0 127 nL cells slots Q (κ, μ, o) pc ls (.int i :: .ref (n0 + 120) :: st) := by subst hv; exact z_iald C j enc_120 (by decide) hij hj (by decide) hd kk
theorem as_120 (C : Cx p l s m args meth c D n0 own cc nL) {i x : Int32} (j : Nat) (hij : i = nI j) (hj : j < 3) (hd : decode cc pc = .ok (.iastore, 1)) (kk : ZZ p l e R s m args below meth c D n0 127 nL cells slots Q (κ, up μ 7 j x, o) (pc + 1) ls st) : ZZ p l e R s m args below meth c D n0 127 nL cells slots Q (κ, μ, o) pc ls (.int x :: .int i :: .ref (n0 + 120) :: st) := z_iast (σ1 := (κ, up μ 7 j x, o)) C j enc_120 (by rw [enc_120, up_upd]) (fun j hj => enc_um (by omega)) (by decide) hij hj (by decide) hd kk
theorem al_121 (C : Cx p l s m args meth c D n0 own cc nL) {i v : Int32} (j : Nat) (hij : i = nI j) (hj : j < 384) (hv : μ 8 j = v) (hd : decode cc pc = .ok (.iaload, 1)) (kk : ZZ p l e R s m args below meth c D n0 127 nL cells slots Q (κ, μ, o) (pc + 1) ls (.int v :: st)) : ZZ p l e R s m args below meth c D n0 127 nL cells slots Q (κ, μ, o) pc ls (.int i :: .ref (n0 + 121) :: st) := by subst hv; exact z_iald C j enc_121 (by decide) hij hj (by decide) hd kk
theorem as_121 (C : Cx p l s m args meth c D n0 own cc nL) {i x : Int32} (j : Nat) (hij : i = nI j) (hj : j < 384) (hd : decode cc pc = .ok (.iastore, 1)) (kk : ZZ p l e R s m args below meth c D n0 127 nL cells slots Q (κ, up μ 8 j x, o) (pc + 1) ls st) : ZZ p l e R s m args below meth c D n0 127 nL cells slots Q (κ, μ, o) pc ls (.int x :: .int i :: .ref (n0 + 121) :: st) := z_iast (σ1 := (κ, up μ 8 j x, o)) C j enc_121 (by rw [enc_121, up_upd]) (fun j hj => enc_um (by omega)) (by decide) hij hj (by decide) hd kk
theorem al_122 (C : Cx p l s m args meth c D n0 own cc nL) {i v : Int32} (j : Nat) (hij : i = nI j) (hj : j < 160) (hv : μ 9 j = v) (hd : decode cc pc = .ok (.iaload, 1)) (kk : ZZ p l e R s m args below meth c D n0 127 nL cells slots Q (κ, μ, o) (pc + 1) ls (.int v :: st)) : ZZ p l e R s m args below meth c D n0 127 nL cells slots Q (κ, μ, o) pc ls (.int i :: .ref (n0 + 122) :: st) := by subst hv; exact z_iald C j enc_122 (by decide) hij hj (by decide) hd kk
theorem as_122 (C : Cx p l s m args meth c D n0 own cc nL) {i x : Int32} (j : Nat) (hij : i = nI j) (hj : j < 160) (hd : decode cc pc = .ok (.iastore, 1)) (kk : ZZ p l e R s m args below meth c D n0 127 nL cells slots Q (κ, up μ 9 j x, o) (pc + 1) ls st) : ZZ p l e R s m args below meth c D n0 127 nL cells slots Q (κ, μ, o) pc ls (.int x :: .int i :: .ref (n0 + 122) :: st) := z_iast (σ1 := (κ, up μ 9 j x, o)) C j enc_122 (by rw [enc_122, up_upd]) (fun j hj => enc_um (by omega)) (by decide) hij hj (by decide) hd kk
theorem al_123 (C : Cx p l s m args meth c D n0 own cc nL) {i v : Int32} (j : Nat) (hij : i = nI j) (hj : j < 8) (hv : μ 10 j = v) (hd : decode cc pc = .ok (.iaload, 1)) (kk : ZZ p l e R s m args below meth c D n0 127 nL cells slots Q (κ, μ, o) (pc + 1) ls (.int v :: st)) : ZZ p l e R s m args below meth c D n0 127 nL cells slots Q (κ, μ, o) pc ls (.int i :: .ref (n0 + 123) :: st) := by subst hv; exact z_iald C j enc_123 (by decide) hij hj (by decide) hd kk
theorem as_123 (C : Cx p l s m args meth c D n0 own cc nL) {i x : Int32} (j : Nat) (hij : i = nI j) (hj : j < 8) (hd : decode cc pc = .ok (.iastore, 1)) (kk : ZZ p l e R s m args below meth c D n0 127 nL cells slots Q (κ, up μ 10 j x, o) (pc + 1) ls st) : ZZ p l e R s m args below meth c D n0 127 nL cells slots Q (κ, μ, o) pc ls (.int x :: .int i :: .ref (n0 + 123) :: st) := z_iast (σ1 := (κ, up μ 10 j x, o)) C j enc_123 (by rw [enc_123, up_upd]) (fun j hj => enc_um (by omega)) (by decide) hij hj (by decide) hd kk
theorem al_124 (C : Cx p l s m args meth c D n0 own cc nL) {i v : Int32} (j : Nat) (hij : i = nI j) (hj : j < 8) (hv : μ 11 j = v) (hd : decode cc pc = .ok (.iaload, 1)) (kk : ZZ p l e R s m args below meth c D n0 127 nL cells slots Q (κ, μ, o) (pc + 1) ls (.int v :: st)) : ZZ p l e R s m args below meth c D n0 127 nL cells slots Q (κ, μ, o) pc ls (.int i :: .ref (n0 + 124) :: st) := by subst hv; exact z_iald C j enc_124 (by decide) hij hj (by decide) hd kk
theorem as_124 (C : Cx p l s m args meth c D n0 own cc nL) {i x : Int32} (j : Nat) (hij : i = nI j) (hj : j < 8) (hd : decode cc pc = .ok (.iastore, 1)) (kk : ZZ p l e R s m args below meth c D n0 127 nL cells slots Q (κ, up μ 11 j x, o) (pc + 1) ls st) : ZZ p l e R s m args below meth c D n0 127 nL cells slots Q (κ, μ, o) pc ls (.int x :: .int i :: .ref (n0 + 124) :: st) := z_iast (σ1 := (κ, up μ 11 j x, o)) C j enc_124 (by rw [enc_124, up_upd]) (fun j hj => enc_um (by omega)) (by decide) hij hj (by decide) hd kk
theorem al_125 (C : Cx p l s m args meth c D n0 own cc nL) {i v : Int32} (j : Nat) (hij : i = nI j) (hj : j < 8) (hv : μ 12 j = v) (hd : decode cc pc = .ok (.iaload, 1)) (kk : ZZ p l e R s m args below meth c D n0 127 nL cells slots Q (κ, μ, o) (pc + 1) ls (.int v :: st)) : ZZ p l e R s m args below meth c D n0 127 nL cells slots Q (κ, μ, o) pc ls (.int i :: .ref (n0 + 125) :: st) := by subst hv; exact z_iald C j enc_125 (by decide) hij hj (by decide) hd kk
theorem as_125 (C : Cx p l s m args meth c D n0 own cc nL) {i x : Int32} (j : Nat) (hij : i = nI j) (hj : j < 8) (hd : decode cc pc = .ok (.iastore, 1)) (kk : ZZ p l e R s m args below meth c D n0 127 nL cells slots Q (κ, up μ 12 j x, o) (pc + 1) ls st) : ZZ p l e R s m args below meth c D n0 127 nL cells slots Q (κ, μ, o) pc ls (.int x :: .int i :: .ref (n0 + 125) :: st) := z_iast (σ1 := (κ, up μ 12 j x, o)) C j enc_125 (by rw [enc_125, up_upd]) (fun j hj => enc_um (by omega)) (by decide) hij hj (by decide) hd kk
end FR
theorem ok_X3_15 : okS RX3 15 yJ7_fill_53178 cJ7_fill_53178 4 none 2 := ⟨wd_81, wd_82, wd_49, wd_83, by decide +kernel⟩
theorem ok_L_135 : okV RL RX4 135 yX4_mark cX4_mark 3 (some .boolean) 2 := ⟨wd_231, wd_232, wd_233, wd_46, wd_234, by decide +kernel⟩
theorem ok_L_143 : okV RL RX4 143 yX4_commit cX4_commit 1 (some .int) 0 := ⟨wd_235, wd_236, wd_237, wd_46, wd_238, by decide +kernel⟩
theorem ok_X4_184 : okV RX4 RX4 184 yX4_writeHead cX4_writeHead 1 none 0 := ⟨wd_239, wd_241, wd_0, wd_46, wd_242, by decide +kernel⟩
theorem ok_X4_192 : okV RX4 RX2 192 yX2_copy cX2_copy 3 none 1 := ⟨wd_243, wd_244, wd_245, wd_47, wd_246, by decide +kernel⟩
theorem ok_X2_66 : okV RX2 RX3 66 yX3_copy cX3_copy 2 none 1 := ⟨wd_247, wd_248, wd_249, wd_48, wd_250, by decide +kernel⟩
theorem ok_X4_108 : okV RX4 RX4 108 yX4_serveQueue cX4_serveQueue 2 none 0 := ⟨wd_255, wd_257, wd_1, wd_46, wd_258, by decide +kernel⟩
theorem ok_X4_308 : okV RX4 RX4 308 yX4_serveFirst cX4_serveFirst 3 (some .boolean) 0 := ⟨wd_259, wd_261, wd_2, wd_46, wd_262, by decide +kernel⟩
theorem ok_X4_314 : okV RX4 RX1 314 yX1_volumeAt cX1_volumeAt 2 (some .int) 1 := ⟨wd_263, wd_264, wd_265, wd_51, wd_266, by decide +kernel⟩
theorem ok_X4_276 : okV RX4 RX2 276 yX2_find cX2_find 3 (some (.object "ThinExtents$Volume")) 1 := ⟨wd_267, wd_268, wd_269, wd_47, wd_270, by decide +kernel⟩
theorem ok_X2_22 : okV RX2 RX2 22 yX2_slot cX2_slot 2 (some (.object "ThinExtents$Volume")) 1 := ⟨wd_271, wd_272, wd_273, wd_47, wd_274, by decide +kernel⟩
theorem ok_X4_317 : okV RX4 RX1 317 yX1_wordAt cX1_wordAt 2 (some .int) 1 := ⟨wd_275, wd_276, wd_277, wd_51, wd_278, by decide +kernel⟩
theorem ok_X4_137 : okV RX4 RX4 137 yX4_isOver cX4_isOver 3 (some .boolean) 2 := ⟨wd_279, wd_281, wd_3, wd_46, wd_282, by decide +kernel⟩
theorem ok_X4_83 : okV RX4 RX3 83 yX3_extentOf cX3_extentOf 2 (some .int) 1 := ⟨wd_283, wd_284, wd_285, wd_48, wd_286, by decide +kernel⟩
theorem ok_X4_130 : okV RX4 RX4 130 yX4_needsExtent cX4_needsExtent 3 (some .boolean) 2 := ⟨wd_287, wd_289, wd_4, wd_46, wd_290, by decide +kernel⟩
theorem ok_X4_293 : okV RX4 RX0 293 yX0_isSole cX0_isSole 2 (some .boolean) 1 := ⟨wd_291, wd_292, wd_293, wd_50, wd_294, by decide +kernel⟩
theorem ok_X0_29 : okV RX0 RX2 29 yX2_usesOf cX2_usesOf 2 (some .int) 1 := ⟨wd_295, wd_296, wd_297, wd_47, wd_298, by decide +kernel⟩
theorem ok_X4_264 : okV RX4 RX0 264 yX0_countFree cX0_countFree 3 (some .int) 0 := ⟨wd_299, wd_300, wd_301, wd_50, wd_302, by decide +kernel⟩
theorem ok_X0_35 : okV RX0 RX0 35 yX0_isFree cX0_isFree 2 (some .boolean) 1 := ⟨wd_303, wd_304, wd_305, wd_50, wd_306, by decide +kernel⟩
theorem ok_X4_319 : okV RX4 RX1 319 yX1_valueAt cX1_valueAt 2 (some .int) 1 := ⟨wd_307, wd_308, wd_309, wd_51, wd_310, by decide +kernel⟩
theorem ok_X4_134 : okV RX4 RX4 134 yX4_perform cX4_perform 8 (some .int) 3 := ⟨wd_311, wd_313, wd_5, wd_46, wd_314, by decide +kernel⟩
theorem ok_X4_299 : okV RX4 RX0 299 yX0_setWord cX0_setWord 5 none 3 := ⟨wd_315, wd_316, wd_317, wd_50, wd_318, by decide +kernel⟩
theorem ok_X4_302 : okV RX4 RX0 302 yX0_take cX0_take 4 (some .int) 0 := ⟨wd_319, wd_320, wd_321, wd_50, wd_322, by decide +kernel⟩
theorem ok_X4_144 : okV RX4 RX4 144 yX4_wordOf cX4_wordOf 4 (some .int) 2 := ⟨wd_323, wd_325, wd_6, wd_46, wd_326, by decide +kernel⟩
theorem ok_X4_305 : okV RX4 RX0 305 yX0_wordAt cX0_wordAt 4 (some .int) 2 := ⟨wd_327, wd_328, wd_329, wd_50, wd_330, by decide +kernel⟩
theorem ok_X4_87 : okV RX4 RX2 87 yX2_setExtent cX2_setExtent 5 none 3 := ⟨wd_331, wd_332, wd_333, wd_47, wd_334, by decide +kernel⟩
theorem ok_X2_49 : okV RX2 RX3 49 yX3_extentOf cX3_extentOf 2 (some .int) 1 := ⟨wd_335, wd_284, wd_285, wd_48, wd_286, by decide +kernel⟩
theorem ok_X2_56 : okV RX2 RX3 56 yX3_setExtent cX3_setExtent 3 none 2 := ⟨wd_336, wd_337, wd_338, wd_48, wd_339, by decide +kernel⟩
theorem ok_X4_311 : okV RX4 RX1 311 yX1_removeFirst cX1_removeFirst 2 none 0 := ⟨wd_340, wd_341, wd_342, wd_51, wd_343, by decide +kernel⟩
theorem ok_X1_33 : okV RX1 RX1 33 yX1_volumeAt cX1_volumeAt 2 (some .int) 1 := ⟨wd_344, wd_264, wd_265, wd_51, wd_266, by decide +kernel⟩
theorem ok_X1_29 : okV RX1 RX1 29 yX1_wordAt cX1_wordAt 2 (some .int) 1 := ⟨wd_345, wd_276, wd_277, wd_51, wd_278, by decide +kernel⟩
theorem ok_X1_36 : okV RX1 RX1 36 yX1_valueAt cX1_valueAt 2 (some .int) 1 := ⟨wd_346, wd_308, wd_309, wd_51, wd_310, by decide +kernel⟩
theorem ok_X1_25 : okV RX1 RX1 25 yX1_put cX1_put 5 none 4 := ⟨wd_347, wd_349, wd_7, wd_51, wd_350, by decide +kernel⟩
theorem ok_L_154 : okV RL RX4 154 yX4_release cX4_release 2 (some .boolean) 0 := ⟨wd_351, wd_352, wd_353, wd_46, wd_354, by decide +kernel⟩
theorem ok_X4_205 : okV RX4 RX2 205 yX2_clear cX2_clear 5 none 0 := ⟨wd_355, wd_356, wd_357, wd_47, wd_358, by decide +kernel⟩
theorem ok_X2_46 : okV RX2 RX3 46 yX3_clear cX3_clear 1 none 0 := ⟨wd_359, wd_360, wd_361, wd_48, wd_362, by decide +kernel⟩
theorem ok_X2_76 : okS RX2 76 yJ7_fill_53178 cJ7_fill_53178 4 none 2 := ⟨wd_363, wd_82, wd_49, wd_83, by decide +kernel⟩
theorem ok_L_7 : okV RL RX4 7 yX4_make cX4_make 5 (some .int) 3 := ⟨wd_370, wd_371, wd_372, wd_46, wd_373, by decide +kernel⟩
theorem ok_X4_42 : okV RX4 RX4 42 yX4_numbered cX4_numbered 3 (some (.object "ThinExtents$Volume")) 1 := ⟨wd_374, wd_376, wd_8, wd_46, wd_377, by decide +kernel⟩
theorem ok_X4_226 : okV RX4 RX2 226 yX2_slot cX2_slot 2 (some (.object "ThinExtents$Volume")) 1 := ⟨wd_378, wd_272, wd_273, wd_47, wd_274, by decide +kernel⟩
theorem ok_X4_46 : okV RX4 RX4 46 yX4_requireSize cX4_requireSize 2 none 1 := ⟨wd_447, wd_449, wd_10, wd_46, wd_450, by decide +kernel⟩
theorem ok_X4_63 : okV RX4 RX2 63 yX2_add cX2_add 6 none 5 := ⟨wd_483, wd_484, wd_485, wd_47, wd_486, by decide +kernel⟩
theorem ok_L_19 : okV RL RX4 19 yX4_snap cX4_snap 6 (some .int) 2 := ⟨wd_490, wd_491, wd_492, wd_46, wd_493, by decide +kernel⟩
theorem ok_X4_71 : okV RX4 RX4 71 yX4_existing cX4_existing 3 (some (.object "ThinExtents$Volume")) 1 := ⟨wd_494, wd_496, wd_11, wd_46, wd_497, by decide +kernel⟩
theorem ok_L_23 : okV RL RX4 23 yX4_drop cX4_drop 4 (some .int) 1 := ⟨wd_502, wd_503, wd_504, wd_46, wd_505, by decide +kernel⟩
theorem ok_X4_97 : okV RX4 RX1 97 yX1_removeAllOf cX1_removeAllOf 4 (some .int) 1 := ⟨wd_506, wd_507, wd_508, wd_51, wd_509, by decide +kernel⟩
theorem ok_X4_100 : okV RX4 RX2 100 yX2_unmap cX2_unmap 6 (some .int) 3 := ⟨wd_510, wd_511, wd_512, wd_47, wd_513, by decide +kernel⟩
theorem ok_X2_60 : okV RX2 RX2 60 yX2_setExtent cX2_setExtent 5 none 3 := ⟨wd_514, wd_332, wd_333, wd_47, wd_334, by decide +kernel⟩
theorem ok_X4_104 : okV RX4 RX2 104 yX2_remove cX2_remove 2 none 1 := ⟨wd_515, wd_516, wd_517, wd_47, wd_518, by decide +kernel⟩
theorem ok_L_27 : okV RL RX4 27 yX4_resize cX4_resize 5 (some .int) 2 := ⟨wd_522, wd_523, wd_524, wd_46, wd_525, by decide +kernel⟩
theorem ok_X4_111 : okV RX4 RX4 111 yX4_requireNoneWaits cX4_requireNoneWaits 4 none 3 := ⟨wd_526, wd_528, wd_12, wd_46, wd_529, by decide +kernel⟩
theorem ok_X4_122 : okV RX4 RX1 122 yX1_waitsIn cX1_waitsIn 6 (some .boolean) 3 := ⟨wd_530, wd_531, wd_532, wd_51, wd_533, by decide +kernel⟩
theorem ok_L_30 : okV RL RX4 30 yX4_write cX4_write 6 (some .int) 3 := ⟨wd_538, wd_539, wd_540, wd_46, wd_541, by decide +kernel⟩
theorem ok_X4_115 : okV RX4 RX4 115 yX4_requireWord cX4_requireWord 3 none 2 := ⟨wd_542, wd_544, wd_13, wd_46, wd_545, by decide +kernel⟩
theorem ok_X4_126 : okV RX4 RX4 126 yX4_enqueue cX4_enqueue 4 (some .int) 3 := ⟨wd_547, wd_549, wd_14, wd_46, wd_550, by decide +kernel⟩
theorem ok_X4_297 : okV RX4 RX1 297 yX1_add cX1_add 4 (some .boolean) 3 := ⟨wd_551, wd_552, wd_553, wd_51, wd_554, by decide +kernel⟩
theorem ok_X4_140 : okV RX4 RX4 140 yX4_writeNeeding cX4_writeNeeding 5 (some .int) 4 := ⟨wd_555, wd_557, wd_15, wd_46, wd_558, by decide +kernel⟩
theorem ok_L_34 : okV RL RX4 34 yX4_read cX4_read 4 (some .int) 2 := ⟨wd_562, wd_563, wd_564, wd_46, wd_565, by decide +kernel⟩
theorem ok_L_37 : okV RL RX4 37 yX4_discard cX4_discard 6 (some .int) 3 := ⟨wd_569, wd_570, wd_571, wd_46, wd_572, by decide +kernel⟩
theorem ok_L_40 : okV RL RX4 40 yX4_grow cX4_grow 2 (some .int) 1 := ⟨wd_577, wd_578, wd_579, wd_46, wd_580, by decide +kernel⟩
theorem ok_X4_153 : okV RX4 RX4 153 yX4_requireNotNegative cX4_requireNotNegative 2 none 1 := ⟨wd_581, wd_583, wd_16, wd_46, wd_584, by decide +kernel⟩
theorem ok_L_43 : okV RL RX4 43 yX4_shrink cX4_shrink 2 (some .int) 1 := ⟨wd_589, wd_590, wd_591, wd_46, wd_592, by decide +kernel⟩
theorem ok_X4_157 : okV RX4 RX0 157 yX0_areFree cX0_areFree 4 (some .boolean) 2 := ⟨wd_593, wd_594, wd_595, wd_50, wd_596, by decide +kernel⟩
theorem ok_L_46 : okV RL RX4 46 yX4_back cX4_back 4 (some .int) 2 := ⟨wd_600, wd_601, wd_602, wd_46, wd_603, by decide +kernel⟩
theorem ok_X4_166 : okV RX4 RX2 166 yX2_hasBacked cX2_hasBacked 5 (some .boolean) 0 := ⟨wd_605, wd_606, wd_607, wd_47, wd_608, by decide +kernel⟩
theorem ok_L_49 : okV RL RX4 49 yX4_quota cX4_quota 5 (some .int) 2 := ⟨wd_613, wd_614, wd_615, wd_46, wd_616, by decide +kernel⟩
theorem ok_L_52 : okV RL RX4 52 yX4_marked cX4_marked 2 (some .int) 1 := ⟨wd_621, wd_622, wd_623, wd_46, wd_624, by decide +kernel⟩
theorem ok_X4_180 : okV RX4 RX4 180 yX4_stateOf cX4_stateOf 2 (some (.object "ThinExtents$State")) 1 := ⟨wd_625, wd_627, wd_17, wd_46, wd_628, by decide +kernel⟩
theorem ok_L_55 : okV RL RX4 55 yX4_cut cX4_cut 2 (some .int) 1 := ⟨wd_633, wd_634, wd_635, wd_46, wd_636, by decide +kernel⟩
theorem ok_X4_196 : okV RX4 RX1 196 yX1_removeAll cX1_removeAll 2 (some .int) 0 := ⟨wd_638, wd_639, wd_640, wd_51, wd_641, by decide +kernel⟩
theorem ok_L_58 : okV RL RX4 58 yX4_hold cX4_hold 1 (some .int) 0 := ⟨wd_645, wd_646, wd_647, wd_46, wd_648, by decide +kernel⟩
theorem ok_L_62 : okV RL RX4 62 yX4_patience cX4_patience 3 (some .int) 1 := ⟨wd_653, wd_654, wd_655, wd_46, wd_656, by decide +kernel⟩
theorem ok_L_65 : okV RL RX4 65 yX4_alarm cX4_alarm 3 (some .int) 1 := ⟨wd_661, wd_662, wd_663, wd_46, wd_664, by decide +kernel⟩
theorem ok_L_68 : okV RL RX4 68 yX4_tick cX4_tick 3 (some .int) 1 := ⟨wd_669, wd_670, wd_671, wd_46, wd_672, by decide +kernel⟩
theorem ok_L_71 : okV RL RX4 71 yX4_map cX4_map 6 (some .int) 3 := ⟨wd_677, wd_678, wd_679, wd_46, wd_680, by decide +kernel⟩
theorem ok_L_74 : okV RL RX4 74 yX4_volume cX4_volume 4 (some .int) 2 := ⟨wd_685, wd_686, wd_687, wd_46, wd_688, by decide +kernel⟩
theorem ok_X4_231 : okV RX4 RX3 231 yX3_lastMapped cX3_lastMapped 2 (some .int) 0 := ⟨wd_689, wd_690, wd_691, wd_48, wd_692, by decide +kernel⟩
theorem ok_X4_234 : okV RX4 RX4 234 yX4_countShared cX4_countShared 5 (some .int) 1 := ⟨wd_693, wd_695, wd_18, wd_46, wd_696, by decide +kernel⟩
theorem ok_X4_241 : okV RX4 RX1 241 yX1_countOf cX1_countOf 4 (some .int) 1 := ⟨wd_697, wd_698, wd_699, wd_51, wd_700, by decide +kernel⟩
theorem ok_L_77 : okV RL RX4 77 yX4_differ cX4_differ 6 (some .int) 3 := ⟨wd_705, wd_706, wd_707, wd_46, wd_708, by decide +kernel⟩
theorem ok_X4_246 : okV RX4 RX4 246 yX4_countRuns cX4_countRuns 7 (some .int) 2 := ⟨wd_709, wd_711, wd_19, wd_46, wd_712, by decide +kernel⟩
theorem ok_X4_322 : okV RX4 RX4 322 yX4_sortOf cX4_sortOf 6 (some .int) 3 := ⟨wd_713, wd_715, wd_20, wd_46, wd_716, by decide +kernel⟩
theorem ok_X4_250 : okV RX4 RX4 250 yX4_countSort cX4_countSort 6 (some .int) 3 := ⟨wd_717, wd_719, wd_21, wd_46, wd_720, by decide +kernel⟩
theorem ok_L_80 : okV RL RX4 80 yX4_users cX4_users 2 (some .int) 1 := ⟨wd_724, wd_725, wd_726, wd_46, wd_727, by decide +kernel⟩
theorem ok_X4_254 : okV RX4 RX4 254 yX4_requireExtent cX4_requireExtent 2 none 1 := ⟨wd_728, wd_730, wd_22, wd_46, wd_731, by decide +kernel⟩
theorem ok_X4_257 : okV RX4 RX2 257 yX2_usesOf cX2_usesOf 2 (some .int) 1 := ⟨wd_733, wd_296, wd_297, wd_47, wd_298, by decide +kernel⟩
theorem ok_L_83 : okV RL RX4 83 yX4_user cX4_user 3 (some .int) 2 := ⟨wd_737, wd_738, wd_739, wd_46, wd_740, by decide +kernel⟩
theorem ok_X4_260 : okV RX4 RX2 260 yX2_userOf cX2_userOf 6 (some .int) 2 := ⟨wd_741, wd_742, wd_743, wd_47, wd_744, by decide +kernel⟩
theorem ok_L_86 : okV RL RX4 86 yX4_told cX4_told 2 (some .int) 1 := ⟨wd_748, wd_749, wd_750, wd_46, wd_751, by decide +kernel⟩
theorem ok_L_99 : okV RL RX5 99 yX5_thrown cX5_thrown 1 (some .int) 0 := ⟨wd_841, wd_842, wd_843, wd_52, wd_844, by decide +kernel⟩
theorem ok_L_116 : okV RL RX5 116 yX5_write cX5_write 6 (some .int) 3 := ⟨wd_845, wd_846, wd_847, wd_52, wd_848, by decide +kernel⟩
theorem ok_X5_126 : okV RX5 RX5 126 yX5_isVolume cX5_isVolume 2 (some .boolean) 1 := ⟨wd_849, wd_851, wd_23, wd_52, wd_852, by decide +kernel⟩
theorem ok_X5_54 : okS RX5 54 yX5_isNumber cX5_isNumber 1 (some .boolean) 1 := ⟨wd_853, wd_854, wd_52, wd_855, by decide +kernel⟩
theorem ok_X5_129 : okV RX5 RX5 129 yX5_waits cX5_waits 5 (some .boolean) 2 := ⟨wd_856, wd_858, wd_24, wd_52, wd_859, by decide +kernel⟩
theorem ok_X5_132 : okV RX5 RX5 132 yX5_enqueue cX5_enqueue 4 (some .int) 3 := ⟨wd_860, wd_862, wd_25, wd_52, wd_863, by decide +kernel⟩
theorem ok_X5_113 : okV RX5 RX5 113 yX5_isOver cX5_isOver 3 (some .boolean) 2 := ⟨wd_864, wd_866, wd_26, wd_52, wd_867, by decide +kernel⟩
theorem ok_X5_58 : okS RX5 58 yX5_at cX5_at 3 (some .int) 3 := ⟨wd_868, wd_869, wd_52, wd_870, by decide +kernel⟩
theorem ok_X5_76 : okV RX5 RX5 76 yX5_mapped cX5_mapped 4 (some .int) 1 := ⟨wd_871, wd_873, wd_27, wd_52, wd_874, by decide +kernel⟩
theorem ok_X5_99 : okV RX5 RX5 99 yX5_needs cX5_needs 4 (some .boolean) 2 := ⟨wd_875, wd_877, wd_28, wd_52, wd_878, by decide +kernel⟩
theorem ok_X5_73 : okV RX5 RX5 73 yX5_isSole cX5_isSole 2 (some .boolean) 1 := ⟨wd_879, wd_881, wd_29, wd_52, wd_882, by decide +kernel⟩
theorem ok_X5_62 : okV RX5 RX5 62 yX5_usersOf cX5_usersOf 6 (some .int) 2 := ⟨wd_883, wd_885, wd_30, wd_52, wd_886, by decide +kernel⟩
theorem ok_X5_123 : okV RX5 RX5 123 yX5_perform cX5_perform 7 (some .int) 3 := ⟨wd_887, wd_889, wd_31, wd_52, wd_890, by decide +kernel⟩
theorem ok_X5_103 : okV RX5 RX5 103 yX5_take cX5_take 5 none 2 := ⟨wd_891, wd_893, wd_32, wd_52, wd_894, by decide +kernel⟩
theorem ok_X5_66 : okV RX5 RX5 66 yX5_isFree cX5_isFree 2 (some .boolean) 1 := ⟨wd_895, wd_897, wd_33, wd_52, wd_898, by decide +kernel⟩
theorem ok_X5_83 : okV RX5 RX5 83 yX5_wordOf cX5_wordOf 4 (some .int) 2 := ⟨wd_899, wd_901, wd_34, wd_52, wd_902, by decide +kernel⟩
theorem ok_X5_92 : okV RX5 RX5 92 yX5_freeMany cX5_freeMany 3 (some .int) 0 := ⟨wd_903, wd_905, wd_35, wd_52, wd_906, by decide +kernel⟩
theorem ok_L_119 : okV RL RX5 119 yX5_read cX5_read 3 (some .int) 2 := ⟨wd_907, wd_908, wd_909, wd_52, wd_910, by decide +kernel⟩
theorem ok_L_98 : okV RL RX5 98 yX5_make cX5_make 5 (some .int) 3 := ⟨wd_911, wd_912, wd_913, wd_52, wd_914, by decide +kernel⟩
theorem ok_X5_144 : okS RX5 144 yX5_isSize cX5_isSize 1 (some .boolean) 1 := ⟨wd_915, wd_916, wd_52, wd_917, by decide +kernel⟩
theorem ok_X5_147 : okV RX5 RX5 147 yX5_volumes cX5_volumes 4 (some .int) 1 := ⟨wd_918, wd_920, wd_36, wd_52, wd_921, by decide +kernel⟩
theorem ok_L_105 : okV RL RX5 105 yX5_snap cX5_snap 3 (some .int) 2 := ⟨wd_922, wd_923, wd_924, wd_52, wd_925, by decide +kernel⟩
theorem ok_X5_69 : okV RX5 RX5 69 yX5_copyVolume cX5_copyVolume 8 none 4 := ⟨wd_926, wd_928, wd_37, wd_52, wd_929, by decide +kernel⟩
theorem ok_L_109 : okV RL RX5 109 yX5_drop cX5_drop 4 (some .int) 1 := ⟨wd_930, wd_931, wd_932, wd_52, wd_933, by decide +kernel⟩
theorem ok_X5_119 : okV RX5 RX5 119 yX5_unqueue cX5_unqueue 3 none 1 := ⟨wd_934, wd_936, wd_38, wd_52, wd_937, by decide +kernel⟩
theorem ok_X5_150 : okV RX5 RX5 150 yX5_drain cX5_drain 6 none 0 := ⟨wd_938, wd_940, wd_39, wd_52, wd_941, by decide +kernel⟩
theorem ok_L_112 : okV RL RX5 112 yX5_resize cX5_resize 4 (some .int) 2 := ⟨wd_942, wd_943, wd_944, wd_52, wd_945, by decide +kernel⟩
theorem ok_X5_153 : okV RX5 RX5 153 yX5_waitsIn cX5_waitsIn 6 (some .boolean) 3 := ⟨wd_946, wd_948, wd_40, wd_52, wd_949, by decide +kernel⟩
theorem ok_X5_157 : okV RX5 RX5 157 yX5_unmap cX5_unmap 6 (some .int) 3 := ⟨wd_950, wd_952, wd_41, wd_52, wd_953, by decide +kernel⟩
theorem ok_L_122 : okV RL RX5 122 yX5_discard cX5_discard 5 (some .int) 3 := ⟨wd_954, wd_955, wd_956, wd_52, wd_957, by decide +kernel⟩
theorem ok_L_125 : okV RL RX5 125 yX5_grow cX5_grow 2 (some .int) 1 := ⟨wd_958, wd_959, wd_960, wd_52, wd_961, by decide +kernel⟩
theorem ok_L_128 : okV RL RX5 128 yX5_shrink cX5_shrink 3 (some .int) 1 := ⟨wd_962, wd_963, wd_964, wd_52, wd_965, by decide +kernel⟩
theorem ok_L_131 : okV RL RX5 131 yX5_back cX5_back 4 (some .int) 2 := ⟨wd_966, wd_967, wd_968, wd_52, wd_969, by decide +kernel⟩
theorem ok_L_134 : okV RL RX5 134 yX5_quota cX5_quota 4 (some .int) 2 := ⟨wd_970, wd_971, wd_972, wd_52, wd_973, by decide +kernel⟩
theorem ok_L_139 : okV RL RX5 139 yX5_mark cX5_mark 3 (some .boolean) 2 := ⟨wd_974, wd_975, wd_976, wd_52, wd_977, by decide +kernel⟩
theorem ok_L_142 : okV RL RX5 142 yX5_marked cX5_marked 2 (some .int) 1 := ⟨wd_978, wd_979, wd_980, wd_52, wd_981, by decide +kernel⟩
theorem ok_L_146 : okV RL RX5 146 yX5_commit cX5_commit 1 (some .int) 0 := ⟨wd_982, wd_983, wd_984, wd_52, wd_985, by decide +kernel⟩
theorem ok_X5_160 : okV RX5 RX5 160 yX5_copy cX5_copy 4 none 2 := ⟨wd_986, wd_988, wd_42, wd_52, wd_989, by decide +kernel⟩
theorem ok_L_149 : okV RL RX5 149 yX5_cut cX5_cut 2 (some .int) 1 := ⟨wd_990, wd_991, wd_992, wd_52, wd_993, by decide +kernel⟩
theorem ok_L_153 : okV RL RX5 153 yX5_hold cX5_hold 1 (some .int) 0 := ⟨wd_994, wd_995, wd_996, wd_52, wd_997, by decide +kernel⟩
theorem ok_L_158 : okV RL RX5 158 yX5_release cX5_release 2 (some .boolean) 0 := ⟨wd_998, wd_999, wd_1000, wd_52, wd_1001, by decide +kernel⟩
theorem ok_X5_170 : okV RX5 RX5 170 yX5_clearState cX5_clearState 3 none 1 := ⟨wd_1002, wd_1004, wd_43, wd_52, wd_1005, by decide +kernel⟩
theorem ok_L_161 : okV RL RX5 161 yX5_patience cX5_patience 3 (some .int) 1 := ⟨wd_1006, wd_1007, wd_1008, wd_52, wd_1009, by decide +kernel⟩
theorem ok_L_164 : okV RL RX5 164 yX5_alarm cX5_alarm 3 (some .int) 1 := ⟨wd_1010, wd_1011, wd_1012, wd_52, wd_1013, by decide +kernel⟩
theorem ok_L_167 : okV RL RX5 167 yX5_tick cX5_tick 3 (some .int) 1 := ⟨wd_1014, wd_1015, wd_1016, wd_52, wd_1017, by decide +kernel⟩
theorem ok_L_170 : okV RL RX5 170 yX5_map cX5_map 4 (some .int) 3 := ⟨wd_1018, wd_1019, wd_1020, wd_52, wd_1021, by decide +kernel⟩
theorem ok_L_173 : okV RL RX5 173 yX5_volume cX5_volume 8 (some .int) 2 := ⟨wd_1022, wd_1023, wd_1024, wd_52, wd_1025, by decide +kernel⟩
theorem ok_L_176 : okV RL RX5 176 yX5_differ cX5_differ 8 (some .int) 3 := ⟨wd_1026, wd_1027, wd_1028, wd_52, wd_1029, by decide +kernel⟩
theorem ok_X5_176 : okV RX5 RX5 176 yX5_sortAt cX5_sortAt 6 (some .int) 3 := ⟨wd_1030, wd_1032, wd_44, wd_52, wd_1033, by decide +kernel⟩
theorem ok_L_179 : okV RL RX5 179 yX5_users cX5_users 2 (some .int) 1 := ⟨wd_1034, wd_1035, wd_1036, wd_52, wd_1037, by decide +kernel⟩
theorem ok_L_182 : okV RL RX5 182 yX5_user cX5_user 6 (some .int) 2 := ⟨wd_1038, wd_1039, wd_1040, wd_52, wd_1041, by decide +kernel⟩
theorem ok_L_185 : okV RL RX5 185 yX5_told cX5_told 2 (some .int) 1 := ⟨wd_1042, wd_1043, wd_1044, wd_52, wd_1045, by decide +kernel⟩
theorem th1_cIO : ∀ w ∈ (vx_atS RX4 152 cIO ["java/lang/RuntimeException", "java/lang/Exception"]).filter goodWord, w ∈ tb := by decide +kernel
theorem th2_cIO : ∀ w ∈ (vx_atS RX4 152 cIO ["java/lang/RuntimeException", "java/lang/Exception"]).filter (fun w => !goodWord w), w ∈ Cond.castable cIO cIO :: dcls := by decide +kernel
theorem th3_cIO : ∀ w ∈ Cond.classLink RX4 148 cIO :: Cond.initialized cIO :: vx_atS RX4 152 cIO ["java/lang/RuntimeException", "java/lang/Exception"], vx_ot w = true := by decide +kernel
theorem th4_cIO : Cond.classLink RX4 148 cIO ∈ tb := wd_379
theorem th5_cIO : Cond.initialized cIO ∈ tb := wd_56
theorem th1_cIA : ∀ w ∈ (vx_atS RX4 176 cIA ["java/lang/RuntimeException", "java/lang/Exception"]).filter goodWord, w ∈ tb := by decide +kernel
theorem th2_cIA : ∀ w ∈ (vx_atS RX4 176 cIA ["java/lang/RuntimeException", "java/lang/Exception"]).filter (fun w => !goodWord w), w ∈ Cond.castable cIA cIA :: dcls := by decide +kernel
theorem th3_cIA : ∀ w ∈ Cond.classLink RX4 172 cIA :: Cond.initialized cIA :: vx_atS RX4 176 cIA ["java/lang/RuntimeException", "java/lang/Exception"], vx_ot w = true := by decide +kernel
theorem th4_cIA : Cond.classLink RX4 172 cIA ∈ tb := wd_451
theorem th5_cIA : Cond.initialized cIA ∈ tb := wd_57
theorem th1_cIS : ∀ w ∈ (vx_atS RX4 60 cIS ["java/lang/RuntimeException", "java/lang/Exception"]).filter goodWord, w ∈ tb := by decide +kernel
theorem th2_cIS : ∀ w ∈ (vx_atS RX4 60 cIS ["java/lang/RuntimeException", "java/lang/Exception"]).filter (fun w => !goodWord w), w ∈ Cond.castable cIS cIS :: dcls := by decide +kernel
theorem th3_cIS : ∀ w ∈ Cond.classLink RX4 56 cIS :: Cond.initialized cIS :: vx_atS RX4 60 cIS ["java/lang/RuntimeException", "java/lang/Exception"], vx_ot w = true := by decide +kernel
theorem th4_cIS : Cond.classLink RX4 56 cIS ∈ tb := wd_467
theorem th5_cIS : Cond.initialized cIS ∈ tb := wd_58
