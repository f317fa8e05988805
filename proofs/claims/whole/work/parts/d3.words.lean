/-! words that the constructors want; objects as they are born -/
theorem q_165 : (Jvm.Cond.initialized "java/lang/String") ∈ mm_tbl := mm_tt0 3 rfl rfl
theorem q_166 : (Jvm.Cond.initialized "java/lang/StringLatin1") ∈ mm_tbl := mm_tt0 4 rfl rfl
theorem q_167 : (Jvm.Cond.initialized "jdk/internal/util/Preconditions") ∈ mm_tbl := mm_tt0 5 rfl rfl
theorem q_187 : (Jvm.Cond.classLink "LeafSweepLaw" (8 : Nat) "LeafSweep") ∈ mm_tbl := mm_tt0 25 rfl rfl
theorem q_188 : (Jvm.Cond.instantiable "LeafSweep" (16 : Nat)) ∈ mm_tbl := mm_tt0 26 rfl rfl
theorem q_189 : (Jvm.Cond.methodLink "LeafSweepLaw" (15 : Nat) ({ cls := "LeafSweep", name := "<init>", desc := "()V" } : Jvm.MethodName)) ∈ mm_tbl := mm_tt0 27 rfl rfl
theorem q_190 : (Jvm.Cond.instanceMethod ({ cls := "LeafSweep", name := "<init>", desc := "()V" } : Jvm.MethodName)) ∈ mm_tbl := mm_tt0 28 rfl rfl
theorem q_191 : (Jvm.Cond.code ({ cls := "LeafSweep", name := "<init>", desc := "()V" } : Jvm.MethodName) prog_1_method_1_code (2 : Nat) (Option.none : Option Jvm.ClassFile.FieldType)) ∈ mm_tbl := mm_tt0 29 rfl rfl
theorem q_192 : (Jvm.Cond.methodLink "LeafSweep" (3 : Nat) ({ cls := "java/lang/Object", name := "<init>", desc := "()V" } : Jvm.MethodName)) ∈ mm_tbl := mm_tt0 30 rfl rfl
theorem q_193 : (Jvm.Cond.instanceMethod ({ cls := "java/lang/Object", name := "<init>", desc := "()V" } : Jvm.MethodName)) ∈ mm_tbl := mm_tt0 31 rfl rfl
theorem q_194 : (Jvm.Cond.code ({ cls := "java/lang/Object", name := "<init>", desc := "()V" } : Jvm.MethodName) object_method_1_code (1 : Nat) (Option.none : Option Jvm.ClassFile.FieldType)) ∈ mm_tbl := mm_tt0 32 rfl rfl
theorem q_195 : (Jvm.Cond.classLink "LeafSweep" (9 : Nat) "LeafSweep$Tape") ∈ mm_tbl := mm_tt0 33 rfl rfl
theorem q_196 : (Jvm.Cond.instantiable "LeafSweep$Tape" (9 : Nat)) ∈ mm_tbl := mm_tt0 34 rfl rfl
theorem q_197 : (Jvm.Cond.methodLink "LeafSweep" (11 : Nat) ({ cls := "LeafSweep$Tape", name := "<init>", desc := "()V" } : Jvm.MethodName)) ∈ mm_tbl := mm_tt0 35 rfl rfl
theorem q_198 : (Jvm.Cond.instanceMethod ({ cls := "LeafSweep$Tape", name := "<init>", desc := "()V" } : Jvm.MethodName)) ∈ mm_tbl := mm_tt0 36 rfl rfl
theorem q_199 : (Jvm.Cond.code ({ cls := "LeafSweep$Tape", name := "<init>", desc := "()V" } : Jvm.MethodName) prog_11_method_1_code (6 : Nat) (Option.none : Option Jvm.ClassFile.FieldType)) ∈ mm_tbl := mm_tt0 37 rfl rfl
theorem q_200 : (Jvm.Cond.methodLink "LeafSweep$Tape" (3 : Nat) ({ cls := "java/lang/Object", name := "<init>", desc := "()V" } : Jvm.MethodName)) ∈ mm_tbl := mm_tt0 38 rfl rfl
theorem q_202 : (Jvm.Cond.methodLink "LeafSweep$Tape" (44 : Nat) ({ cls := "java/lang/String", name := "length", desc := "()I" } : Jvm.MethodName)) ∈ mm_tbl := mm_tt0 40 rfl rfl
theorem q_203 : (Jvm.Cond.instanceMethod ({ cls := "java/lang/String", name := "length", desc := "()I" } : Jvm.MethodName)) ∈ mm_tbl := mm_tt0 41 rfl rfl
theorem q_204 : (Jvm.Cond.selects "java/lang/String" ({ cls := "java/lang/String", name := "length", desc := "()I" } : Jvm.MethodName) ({ cls := "java/lang/String", name := "length", desc := "()I" } : Jvm.MethodName)) ∈ mm_tbl := mm_tt0 42 rfl rfl
theorem q_205 : (Jvm.Cond.code ({ cls := "java/lang/String", name := "length", desc := "()I" } : Jvm.MethodName) prog_22_method_54_code (1 : Nat) (Option.some Jvm.ClassFile.FieldType.int)) ∈ mm_tbl := mm_tt0 43 rfl rfl
theorem q_206 : (Jvm.Cond.methodLink "java/lang/String" (335 : Nat) ({ cls := "java/lang/String", name := "coder", desc := "()B" } : Jvm.MethodName)) ∈ mm_tbl := mm_tt0 44 rfl rfl
theorem q_207 : (Jvm.Cond.instanceMethod ({ cls := "java/lang/String", name := "coder", desc := "()B" } : Jvm.MethodName)) ∈ mm_tbl := mm_tt0 45 rfl rfl
theorem q_208 : (Jvm.Cond.selects "java/lang/String" ({ cls := "java/lang/String", name := "coder", desc := "()B" } : Jvm.MethodName) ({ cls := "java/lang/String", name := "coder", desc := "()B" } : Jvm.MethodName)) ∈ mm_tbl := mm_tt0 46 rfl rfl
theorem q_209 : (Jvm.Cond.code ({ cls := "java/lang/String", name := "coder", desc := "()B" } : Jvm.MethodName) prog_22_method_152_code (1 : Nat) (Option.some Jvm.ClassFile.FieldType.byte)) ∈ mm_tbl := mm_tt0 47 rfl rfl
theorem q_210 : (Jvm.Cond.fieldLink "java/lang/String" (38 : Nat) "java/lang/String" "COMPACT_STRINGS" "Z") ∈ mm_tbl := mm_tt0 48 rfl rfl
theorem q_212 : (Jvm.Cond.methodLink "LeafSweep$Tape" (49 : Nat) ({ cls := "java/lang/String", name := "charAt", desc := "(I)C" } : Jvm.MethodName)) ∈ mm_tbl := mm_tt0 50 rfl rfl
theorem q_213 : (Jvm.Cond.instanceMethod ({ cls := "java/lang/String", name := "charAt", desc := "(I)C" } : Jvm.MethodName)) ∈ mm_tbl := mm_tt0 51 rfl rfl
theorem q_214 : (Jvm.Cond.selects "java/lang/String" ({ cls := "java/lang/String", name := "charAt", desc := "(I)C" } : Jvm.MethodName) ({ cls := "java/lang/String", name := "charAt", desc := "(I)C" } : Jvm.MethodName)) ∈ mm_tbl := mm_tt0 52 rfl rfl
theorem q_215 : (Jvm.Cond.code ({ cls := "java/lang/String", name := "charAt", desc := "(I)C" } : Jvm.MethodName) prog_22_method_56_code (2 : Nat) (Option.some Jvm.ClassFile.FieldType.char)) ∈ mm_tbl := mm_tt0 53 rfl rfl
theorem q_216 : (Jvm.Cond.methodLink "java/lang/String" (492 : Nat) ({ cls := "java/lang/String", name := "isLatin1", desc := "()Z" } : Jvm.MethodName)) ∈ mm_tbl := mm_tt0 54 rfl rfl
theorem q_217 : (Jvm.Cond.instanceMethod ({ cls := "java/lang/String", name := "isLatin1", desc := "()Z" } : Jvm.MethodName)) ∈ mm_tbl := mm_tt0 55 rfl rfl
theorem q_218 : (Jvm.Cond.selects "java/lang/String" ({ cls := "java/lang/String", name := "isLatin1", desc := "()Z" } : Jvm.MethodName) ({ cls := "java/lang/String", name := "isLatin1", desc := "()Z" } : Jvm.MethodName)) ∈ mm_tbl := mm_tt0 56 rfl rfl
theorem q_219 : (Jvm.Cond.code ({ cls := "java/lang/String", name := "isLatin1", desc := "()Z" } : Jvm.MethodName) prog_22_method_154_code (1 : Nat) (Option.some Jvm.ClassFile.FieldType.boolean)) ∈ mm_tbl := mm_tt0 57 rfl rfl
theorem q_220 : (Jvm.Cond.methodLink "java/lang/String" (495 : Nat) ({ cls := "java/lang/StringLatin1", name := "charAt", desc := "([BI)C" } : Jvm.MethodName)) ∈ mm_tbl := mm_tt0 58 rfl rfl
theorem q_221 : (Jvm.Cond.static ({ cls := "java/lang/StringLatin1", name := "charAt", desc := "([BI)C" } : Jvm.MethodName)) ∈ mm_tbl := mm_tt0 59 rfl rfl
theorem q_222 : (Jvm.Cond.code ({ cls := "java/lang/StringLatin1", name := "charAt", desc := "([BI)C" } : Jvm.MethodName) prog_23_method_2_code (2 : Nat) (Option.some Jvm.ClassFile.FieldType.char)) ∈ mm_tbl := mm_tt0 60 rfl rfl
theorem q_223 : (Jvm.Cond.methodLink "java/lang/StringLatin1" (9 : Nat) ({ cls := "java/lang/String", name := "checkIndex", desc := "(II)V" } : Jvm.MethodName)) ∈ mm_tbl := mm_tt0 61 rfl rfl
theorem q_224 : (Jvm.Cond.static ({ cls := "java/lang/String", name := "checkIndex", desc := "(II)V" } : Jvm.MethodName)) ∈ mm_tbl := mm_tt0 62 rfl rfl
theorem q_225 : (Jvm.Cond.code ({ cls := "java/lang/String", name := "checkIndex", desc := "(II)V" } : Jvm.MethodName) prog_22_method_155_code (2 : Nat) (Option.none : Option Jvm.ClassFile.FieldType)) ∈ mm_tbl := mm_tt0 63 rfl rfl
theorem q_226 : (Jvm.Cond.fieldLink "java/lang/String" (1053 : Nat) "jdk/internal/util/Preconditions" "SIOOBE_FORMATTER" "Ljava/util/function/BiFunction;") ∈ mm_tbl := mm_tt0 64 rfl rfl
theorem q_228 : (Jvm.Cond.methodLink "java/lang/String" (1059 : Nat) ({ cls := "jdk/internal/util/Preconditions", name := "checkIndex", desc := "(IILjava/util/function/BiFunction;)I" } : Jvm.MethodName)) ∈ mm_tbl := mm_tt0 66 rfl rfl
theorem q_229 : (Jvm.Cond.static ({ cls := "jdk/internal/util/Preconditions", name := "checkIndex", desc := "(IILjava/util/function/BiFunction;)I" } : Jvm.MethodName)) ∈ mm_tbl := mm_tt0 67 rfl rfl
theorem q_230 : (Jvm.Cond.code ({ cls := "jdk/internal/util/Preconditions", name := "checkIndex", desc := "(IILjava/util/function/BiFunction;)I" } : Jvm.MethodName) prog_30_method_11_code (3 : Nat) (Option.some Jvm.ClassFile.FieldType.int)) ∈ mm_tbl := mm_tt0 68 rfl rfl
theorem q_284 : (Jvm.Cond.arrayClass Jvm.ClassFile.FieldType.byte) ∈ mm_tbl := mm_tt0 122 rfl rfl
theorem q_285 : (Jvm.Cond.arrayClass Jvm.ClassFile.FieldType.long) ∈ mm_tbl := mm_tt0 123 rfl rfl
theorem q_286 : (Jvm.Cond.classLink "LeafSweep" (16 : Nat) "LeafSweep$Reader") ∈ mm_tbl := mm_tt0 124 rfl rfl
theorem q_287 : (Jvm.Cond.instantiable "LeafSweep$Reader" (6 : Nat)) ∈ mm_tbl := mm_tt0 125 rfl rfl
theorem q_288 : (Jvm.Cond.methodLink "LeafSweep" (18 : Nat) ({ cls := "LeafSweep$Reader", name := "<init>", desc := "(LLeafSweep$Tape;)V" } : Jvm.MethodName)) ∈ mm_tbl := mm_tt0 126 rfl rfl
theorem q_289 : (Jvm.Cond.instanceMethod ({ cls := "LeafSweep$Reader", name := "<init>", desc := "(LLeafSweep$Tape;)V" } : Jvm.MethodName)) ∈ mm_tbl := mm_tt0 127 rfl rfl
theorem q_290 : (Jvm.Cond.code ({ cls := "LeafSweep$Reader", name := "<init>", desc := "(LLeafSweep$Tape;)V" } : Jvm.MethodName) prog_8_method_1_code (2 : Nat) (Option.none : Option Jvm.ClassFile.FieldType)) ∈ mm_tbl := mm_tt0 128 rfl rfl
theorem q_291 : (Jvm.Cond.methodLink "LeafSweep$Reader" (3 : Nat) ({ cls := "java/lang/Object", name := "<init>", desc := "()V" } : Jvm.MethodName)) ∈ mm_tbl := mm_tt0 129 rfl rfl
theorem q_292 : (Jvm.Cond.classLink "LeafSweep$Reader" (9 : Nat) "LeafSweep$Plan") ∈ mm_tbl := mm_tt0 130 rfl rfl
theorem q_293 : (Jvm.Cond.instantiable "LeafSweep$Plan" (13 : Nat)) ∈ mm_tbl := mm_tt0 131 rfl rfl
theorem q_295 : (Jvm.Cond.instanceMethod ({ cls := "LeafSweep$Plan", name := "<init>", desc := "()V" } : Jvm.MethodName)) ∈ mm_tbl := mm_tt0 133 rfl rfl
theorem q_296 : (Jvm.Cond.code ({ cls := "LeafSweep$Plan", name := "<init>", desc := "()V" } : Jvm.MethodName) prog_6_method_1_code (1 : Nat) (Option.none : Option Jvm.ClassFile.FieldType)) ∈ mm_tbl := mm_tt0 134 rfl rfl
theorem q_297 : (Jvm.Cond.methodLink "LeafSweep$Plan" (3 : Nat) ({ cls := "java/lang/Object", name := "<init>", desc := "()V" } : Jvm.MethodName)) ∈ mm_tbl := mm_tt0 135 rfl rfl
theorem q_298 : (Jvm.Cond.classLink "LeafSweep$Plan" (31 : Nat) "LeafSweep$Where") ∈ mm_tbl := mm_tt0 136 rfl rfl
theorem q_299 : (Jvm.Cond.instantiable "LeafSweep$Where" (7 : Nat)) ∈ mm_tbl := mm_tt0 137 rfl rfl
theorem q_301 : (Jvm.Cond.instanceMethod ({ cls := "LeafSweep$Where", name := "<init>", desc := "()V" } : Jvm.MethodName)) ∈ mm_tbl := mm_tt0 139 rfl rfl
theorem q_302 : (Jvm.Cond.code ({ cls := "LeafSweep$Where", name := "<init>", desc := "()V" } : Jvm.MethodName) prog_12_method_1_code (1 : Nat) (Option.none : Option Jvm.ClassFile.FieldType)) ∈ mm_tbl := mm_tt0 140 rfl rfl
theorem q_303 : (Jvm.Cond.methodLink "LeafSweep$Where" (3 : Nat) ({ cls := "java/lang/Object", name := "<init>", desc := "()V" } : Jvm.MethodName)) ∈ mm_tbl := mm_tt0 141 rfl rfl
theorem q_331 : (Jvm.Cond.arrayClass Jvm.ClassFile.FieldType.int) ∈ mm_tbl := mm_tt0 169 rfl rfl
theorem q_332 : (Jvm.Cond.arrayClass Jvm.ClassFile.FieldType.boolean) ∈ mm_tbl := mm_tt0 170 rfl rfl
theorem q_346 : (Jvm.Cond.fieldLink "LeafSweep$Plan" (25 : Nat) "LeafSweep$Plan" "sort" "[I") ∈ mm_tbl := mm_tt0 184 rfl rfl
theorem q_349 : (Jvm.Cond.fieldLink "LeafSweep$Plan" (28 : Nat) "LeafSweep$Plan" "target" "[I") ∈ mm_tbl := mm_tt0 187 rfl rfl
theorem q_405 : (Jvm.Cond.classLink "LeafSweep$Reader" (18 : Nat) "LeafSweep$Lines") ∈ mm_tbl := mm_tt1 3 rfl rfl
theorem q_406 : (Jvm.Cond.instantiable "LeafSweep$Lines" (3 : Nat)) ∈ mm_tbl := mm_tt1 4 rfl rfl
theorem q_408 : (Jvm.Cond.instanceMethod ({ cls := "LeafSweep$Lines", name := "<init>", desc := "()V" } : Jvm.MethodName)) ∈ mm_tbl := mm_tt1 6 rfl rfl
theorem q_409 : (Jvm.Cond.code ({ cls := "LeafSweep$Lines", name := "<init>", desc := "()V" } : Jvm.MethodName) prog_5_method_1_code (1 : Nat) (Option.none : Option Jvm.ClassFile.FieldType)) ∈ mm_tbl := mm_tt1 7 rfl rfl
theorem q_410 : (Jvm.Cond.methodLink "LeafSweep$Lines" (3 : Nat) ({ cls := "java/lang/Object", name := "<init>", desc := "()V" } : Jvm.MethodName)) ∈ mm_tbl := mm_tt1 8 rfl rfl
theorem q_414 : (Jvm.Cond.fieldLink "LeafSweep$Lines" (18 : Nat) "LeafSweep$Lines" "told" "I") ∈ mm_tbl := mm_tt1 12 rfl rfl
theorem q_443 : (Jvm.Cond.classLink "LeafSweep" (25 : Nat) "LeafSweep$Bench") ∈ mm_tbl := mm_tt1 41 rfl rfl
theorem q_444 : (Jvm.Cond.instantiable "LeafSweep$Bench" (6 : Nat)) ∈ mm_tbl := mm_tt1 42 rfl rfl
theorem q_446 : (Jvm.Cond.instanceMethod ({ cls := "LeafSweep$Bench", name := "<init>", desc := "()V" } : Jvm.MethodName)) ∈ mm_tbl := mm_tt1 44 rfl rfl
theorem q_447 : (Jvm.Cond.code ({ cls := "LeafSweep$Bench", name := "<init>", desc := "()V" } : Jvm.MethodName) prog_2_method_1_code (1 : Nat) (Option.none : Option Jvm.ClassFile.FieldType)) ∈ mm_tbl := mm_tt1 45 rfl rfl
theorem q_448 : (Jvm.Cond.methodLink "LeafSweep$Bench" (3 : Nat) ({ cls := "java/lang/Object", name := "<init>", desc := "()V" } : Jvm.MethodName)) ∈ mm_tbl := mm_tt1 46 rfl rfl
theorem q_470 : (Jvm.Cond.classLink "LeafSweep" (32 : Nat) "LeafSweep$State") ∈ mm_tbl := mm_tt1 68 rfl rfl
theorem q_472 : (Jvm.Cond.classLink "LeafSweep" (54 : Nat) "LeafSweep$Plan") ∈ mm_tbl := mm_tt1 70 rfl rfl
theorem q_474 : (Jvm.Cond.classLink "LeafSweep" (64 : Nat) "LeafSweep$Lines") ∈ mm_tbl := mm_tt1 72 rfl rfl
theorem q_476 : (Jvm.Cond.instantiable "LeafSweep$State" (9 : Nat)) ∈ mm_tbl := mm_tt1 74 rfl rfl
theorem q_477 : (Jvm.Cond.methodLink "LeafSweep" (74 : Nat) ({ cls := "LeafSweep$State", name := "<init>", desc := "(LLeafSweep$Plan;)V" } : Jvm.MethodName)) ∈ mm_tbl := mm_tt1 75 rfl rfl
theorem q_478 : (Jvm.Cond.instanceMethod ({ cls := "LeafSweep$State", name := "<init>", desc := "(LLeafSweep$Plan;)V" } : Jvm.MethodName)) ∈ mm_tbl := mm_tt1 76 rfl rfl
theorem q_479 : (Jvm.Cond.code ({ cls := "LeafSweep$State", name := "<init>", desc := "(LLeafSweep$Plan;)V" } : Jvm.MethodName) prog_10_method_1_code (3 : Nat) (Option.none : Option Jvm.ClassFile.FieldType)) ∈ mm_tbl := mm_tt1 77 rfl rfl
theorem q_480 : (Jvm.Cond.methodLink "LeafSweep$State" (3 : Nat) ({ cls := "java/lang/Object", name := "<init>", desc := "()V" } : Jvm.MethodName)) ∈ mm_tbl := mm_tt1 78 rfl rfl
theorem q_481 : (Jvm.Cond.classLink "LeafSweep$State" (9 : Nat) "LeafSweep$Rows") ∈ mm_tbl := mm_tt1 79 rfl rfl
theorem q_482 : (Jvm.Cond.instantiable "LeafSweep$Rows" (4 : Nat)) ∈ mm_tbl := mm_tt1 80 rfl rfl
theorem q_484 : (Jvm.Cond.instanceMethod ({ cls := "LeafSweep$Rows", name := "<init>", desc := "()V" } : Jvm.MethodName)) ∈ mm_tbl := mm_tt1 82 rfl rfl
theorem q_485 : (Jvm.Cond.code ({ cls := "LeafSweep$Rows", name := "<init>", desc := "()V" } : Jvm.MethodName) prog_9_method_1_code (1 : Nat) (Option.none : Option Jvm.ClassFile.FieldType)) ∈ mm_tbl := mm_tt1 83 rfl rfl
theorem q_486 : (Jvm.Cond.methodLink "LeafSweep$Rows" (3 : Nat) ({ cls := "java/lang/Object", name := "<init>", desc := "()V" } : Jvm.MethodName)) ∈ mm_tbl := mm_tt1 84 rfl rfl
theorem q_507 : (Jvm.Cond.classLink "LeafSweep$State" (18 : Nat) "LeafSweep$Points") ∈ mm_tbl := mm_tt1 105 rfl rfl
theorem q_508 : (Jvm.Cond.instantiable "LeafSweep$Points" (4 : Nat)) ∈ mm_tbl := mm_tt1 106 rfl rfl
theorem q_510 : (Jvm.Cond.instanceMethod ({ cls := "LeafSweep$Points", name := "<init>", desc := "()V" } : Jvm.MethodName)) ∈ mm_tbl := mm_tt1 108 rfl rfl
theorem q_511 : (Jvm.Cond.code ({ cls := "LeafSweep$Points", name := "<init>", desc := "()V" } : Jvm.MethodName) prog_7_method_1_code (1 : Nat) (Option.none : Option Jvm.ClassFile.FieldType)) ∈ mm_tbl := mm_tt1 109 rfl rfl
theorem q_512 : (Jvm.Cond.methodLink "LeafSweep$Points" (3 : Nat) ({ cls := "java/lang/Object", name := "<init>", desc := "()V" } : Jvm.MethodName)) ∈ mm_tbl := mm_tt1 110 rfl rfl
theorem q_534 : (Jvm.Cond.classLink "LeafSweep$State" (25 : Nat) "LeafSweep$Leaves") ∈ mm_tbl := mm_tt1 132 rfl rfl
theorem q_536 : (Jvm.Cond.classLink "LeafSweep$State" (31 : Nat) "LeafSweep$Job") ∈ mm_tbl := mm_tt1 134 rfl rfl
theorem q_537 : (Jvm.Cond.instantiable "LeafSweep$Job" (11 : Nat)) ∈ mm_tbl := mm_tt1 135 rfl rfl
theorem q_539 : (Jvm.Cond.instanceMethod ({ cls := "LeafSweep$Job", name := "<init>", desc := "()V" } : Jvm.MethodName)) ∈ mm_tbl := mm_tt1 137 rfl rfl
theorem q_540 : (Jvm.Cond.code ({ cls := "LeafSweep$Job", name := "<init>", desc := "()V" } : Jvm.MethodName) prog_3_method_1_code (1 : Nat) (Option.none : Option Jvm.ClassFile.FieldType)) ∈ mm_tbl := mm_tt1 138 rfl rfl
theorem q_541 : (Jvm.Cond.methodLink "LeafSweep$Job" (3 : Nat) ({ cls := "java/lang/Object", name := "<init>", desc := "()V" } : Jvm.MethodName)) ∈ mm_tbl := mm_tt1 139 rfl rfl
theorem q_542 : (Jvm.Cond.classLink "LeafSweep$Job" (18 : Nat) "LeafSweep$Leaves") ∈ mm_tbl := mm_tt1 140 rfl rfl
theorem q_543 : (Jvm.Cond.instantiable "LeafSweep$Leaves" (6 : Nat)) ∈ mm_tbl := mm_tt1 141 rfl rfl
theorem q_545 : (Jvm.Cond.instanceMethod ({ cls := "LeafSweep$Leaves", name := "<init>", desc := "()V" } : Jvm.MethodName)) ∈ mm_tbl := mm_tt1 143 rfl rfl
theorem q_546 : (Jvm.Cond.code ({ cls := "LeafSweep$Leaves", name := "<init>", desc := "()V" } : Jvm.MethodName) prog_4_method_1_code (1 : Nat) (Option.none : Option Jvm.ClassFile.FieldType)) ∈ mm_tbl := mm_tt1 144 rfl rfl
theorem q_547 : (Jvm.Cond.methodLink "LeafSweep$Leaves" (3 : Nat) ({ cls := "java/lang/Object", name := "<init>", desc := "()V" } : Jvm.MethodName)) ∈ mm_tbl := mm_tt1 145 rfl rfl
theorem q_1601 : (Jvm.Cond.methodLink "LeafSweepLaw" (121 : Nat) ({ cls := "LeafSweepLaw", name := "rank", desc := "(LLeafSweep;II[J)I" } : Jvm.MethodName)) ∈ mm_tbl := mm_tt5 239 rfl rfl
theorem q_1605 : (Jvm.Cond.methodLink "LeafSweepLaw" (7 : Nat) ({ cls := "LeafSweep", name := "rank", desc := "(II)I" } : Jvm.MethodName)) ∈ mm_tbl := mm_tt6 3 rfl rfl
theorem q_1685 : (Jvm.Cond.instantiable "LeafSweepModel" (27 : Nat)) ∈ mm_tbl := mm_tt6 83 rfl rfl
theorem q_1687 : (Jvm.Cond.classLink "LeafSweepLaw" (16 : Nat) "LeafSweepModel") ∈ mm_tbl := mm_tt6 85 rfl rfl
theorem q_1688 : (Jvm.Cond.methodLink "LeafSweepLaw" (18 : Nat) ({ cls := "LeafSweepModel", name := "<init>", desc := "()V" } : Jvm.MethodName)) ∈ mm_tbl := mm_tt6 86 rfl rfl
theorem q_1689 : (Jvm.Cond.instanceMethod ({ cls := "LeafSweepModel", name := "<init>", desc := "()V" } : Jvm.MethodName)) ∈ mm_tbl := mm_tt6 87 rfl rfl
theorem q_1690 : (Jvm.Cond.code ({ cls := "LeafSweepModel", name := "<init>", desc := "()V" } : Jvm.MethodName) prog_14_method_4_code (1 : Nat) (Option.none : Option Jvm.ClassFile.FieldType)) ∈ mm_tbl := mm_tt6 88 rfl rfl
theorem q_1691 : (Jvm.Cond.methodLink "LeafSweepModel" (18 : Nat) ({ cls := "java/lang/Object", name := "<init>", desc := "()V" } : Jvm.MethodName)) ∈ mm_tbl := mm_tt6 89 rfl rfl
theorem q_1692 : (Jvm.Cond.constantLong "LeafSweepModel" (34 : Nat) (812081 : Int64)) ∈ mm_tbl := mm_tt6 90 rfl rfl
theorem q_1693 : (Jvm.Cond.constantLong "LeafSweepModel" (36 : Nat) (3826474 : Int64)) ∈ mm_tbl := mm_tt6 91 rfl rfl
theorem q_1694 : (Jvm.Cond.constantLong "LeafSweepModel" (38 : Nat) (17582276 : Int64)) ∈ mm_tbl := mm_tt6 92 rfl rfl
theorem q_1695 : (Jvm.Cond.constantLong "LeafSweepModel" (40 : Nat) (25220 : Int64)) ∈ mm_tbl := mm_tt6 93 rfl rfl
theorem q_1696 : (Jvm.Cond.constantLong "LeafSweepModel" (42 : Nat) (30759230 : Int64)) ∈ mm_tbl := mm_tt6 94 rfl rfl
theorem q_1697 : (Jvm.Cond.constantLong "LeafSweepModel" (44 : Nat) (223806197 : Int64)) ∈ mm_tbl := mm_tt6 95 rfl rfl
theorem q_1698 : (Jvm.Cond.constantLong "LeafSweepModel" (46 : Nat) (812503 : Int64)) ∈ mm_tbl := mm_tt6 96 rfl rfl
theorem q_1699 : (Jvm.Cond.constantLong "LeafSweepModel" (48 : Nat) (651303805 : Int64)) ∈ mm_tbl := mm_tt6 97 rfl rfl
theorem q_1700 : (Jvm.Cond.constantLong "LeafSweepModel" (50 : Nat) (1258241874 : Int64)) ∈ mm_tbl := mm_tt6 98 rfl rfl
theorem q_1701 : (Jvm.Cond.constantLong "LeafSweepModel" (52 : Nat) (223095242 : Int64)) ∈ mm_tbl := mm_tt6 99 rfl rfl
theorem q_1702 : (Jvm.Cond.constantLong "LeafSweepModel" (54 : Nat) (4011517 : Int64)) ∈ mm_tbl := mm_tt6 100 rfl rfl
theorem q_1703 : (Jvm.Cond.constantLong "LeafSweepModel" (56 : Nat) (989988 : Int64)) ∈ mm_tbl := mm_tt6 101 rfl rfl
theorem q_1704 : (Jvm.Cond.constantLong "LeafSweepModel" (58 : Nat) (990358 : Int64)) ∈ mm_tbl := mm_tt6 102 rfl rfl
theorem q_1705 : (Jvm.Cond.constantLong "LeafSweepModel" (60 : Nat) (6536317 : Int64)) ∈ mm_tbl := mm_tt6 103 rfl rfl
theorem q_1706 : (Jvm.Cond.constantLong "LeafSweepModel" (62 : Nat) (1258553673 : Int64)) ∈ mm_tbl := mm_tt6 104 rfl rfl
theorem q_1707 : (Jvm.Cond.constantLong "LeafSweepModel" (64 : Nat) (811939 : Int64)) ∈ mm_tbl := mm_tt6 105 rfl rfl
theorem q_1708 : (Jvm.Cond.constantLong "LeafSweepModel" (66 : Nat) (30596128 : Int64)) ∈ mm_tbl := mm_tt6 106 rfl rfl
theorem q_1709 : (Jvm.Cond.constantLong "LeafSweepModel" (68 : Nat) (224012 : Int64)) ∈ mm_tbl := mm_tt6 107 rfl rfl
theorem q_1710 : (Jvm.Cond.constantLong "LeafSweepModel" (70 : Nat) (779077 : Int64)) ∈ mm_tbl := mm_tt6 108 rfl rfl
theorem q_1711 : (Jvm.Cond.constantLong "LeafSweepModel" (72 : Nat) (41155726829 : Int64)) ∈ mm_tbl := mm_tt6 109 rfl rfl
theorem q_1712 : (Jvm.Cond.constantLong "LeafSweepModel" (74 : Nat) (316918 : Int64)) ∈ mm_tbl := mm_tt6 110 rfl rfl
theorem q_1713 : (Jvm.Cond.constantLong "LeafSweepModel" (76 : Nat) (23270970 : Int64)) ∈ mm_tbl := mm_tt6 111 rfl rfl
theorem q_1714 : (Jvm.Cond.constantLong "LeafSweepModel" (78 : Nat) (4537388 : Int64)) ∈ mm_tbl := mm_tt6 112 rfl rfl
theorem q_1715 : (Jvm.Cond.constantLong "LeafSweepModel" (80 : Nat) (2 : Int64)) ∈ mm_tbl := mm_tt6 113 rfl rfl
theorem q_1716 : (Jvm.Cond.constantLong "LeafSweepModel" (82 : Nat) (3 : Int64)) ∈ mm_tbl := mm_tt6 114 rfl rfl
theorem q_1717 : (Jvm.Cond.constantLong "LeafSweepModel" (84 : Nat) (569 : Int64)) ∈ mm_tbl := mm_tt6 115 rfl rfl
theorem q_1718 : (Jvm.Cond.constantLong "LeafSweepModel" (86 : Nat) (57 : Int64)) ∈ mm_tbl := mm_tt6 116 rfl rfl
theorem q_1719 : (Jvm.Cond.constantLong "LeafSweepModel" (88 : Nat) (329128 : Int64)) ∈ mm_tbl := mm_tt6 117 rfl rfl
theorem q_1720 : (Jvm.Cond.constantLong "LeafSweepModel" (90 : Nat) (755 : Int64)) ∈ mm_tbl := mm_tt6 118 rfl rfl
theorem q_1721 : (Jvm.Cond.constantLong "LeafSweepModel" (92 : Nat) (352 : Int64)) ∈ mm_tbl := mm_tt6 119 rfl rfl
theorem q_1722 : (Jvm.Cond.constantLong "LeafSweepModel" (94 : Nat) (790116 : Int64)) ∈ mm_tbl := mm_tt6 120 rfl rfl
theorem q_1723 : (Jvm.Cond.constantLong "LeafSweepModel" (96 : Nat) (10492707 : Int64)) ∈ mm_tbl := mm_tt6 121 rfl rfl
theorem q_1724 : (Jvm.Cond.constantLong "LeafSweepModel" (98 : Nat) (1044894 : Int64)) ∈ mm_tbl := mm_tt6 122 rfl rfl
theorem q_1725 : (Jvm.Cond.constantLong "LeafSweepModel" (100 : Nat) (42109386059 : Int64)) ∈ mm_tbl := mm_tt6 123 rfl rfl
theorem q_1726 : (Jvm.Cond.constantLong "LeafSweepModel" (102 : Nat) (19741 : Int64)) ∈ mm_tbl := mm_tt6 124 rfl rfl
theorem q_1727 : (Jvm.Cond.constantLong "LeafSweepModel" (104 : Nat) (1891 : Int64)) ∈ mm_tbl := mm_tt6 125 rfl rfl
theorem q_1728 : (Jvm.Cond.constantLong "LeafSweepModel" (106 : Nat) (573 : Int64)) ∈ mm_tbl := mm_tt6 126 rfl rfl
theorem q_2524 : (Jvm.Cond.fieldLink "java/lang/String" (9 : Nat) "java/lang/String" "value" "[B") ∈ mm_tbl := mm_tt9 202 rfl rfl
theorem q_2525 : (Jvm.Cond.fieldLink "java/lang/String" (15 : Nat) "java/lang/String" "coder" "B") ∈ mm_tbl := mm_tt9 203 rfl rfl
theorem k_X3_18 : mm_fok RX3 18 (3, 2, 0) := ⟨RX3, TX3, 3, tyX3 2, rfl, by decide, q_414, tyX3_ok 2 (by decide), rfl, Or.inr rfl⟩
theorem k_X4_25 : mm_fok RX4 25 (4, 4, 4) := ⟨RX4, TX4, 13, tyX4 4, rfl, by decide, q_346, tyX4_ok 4 (by decide), rfl, Or.inl rfl⟩
theorem k_X4_28 : mm_fok RX4 28 (4, 5, 4) := ⟨RX4, TX4, 13, tyX4 5, rfl, by decide, q_349, tyX4_ok 5 (by decide), rfl, Or.inl rfl⟩
theorem bn_0 : mx_born 0 [.null, .null, .null, .null, .null, .int 0] := ⟨RX0, TX0, tyX0, rfl, tyX0_ok, by decide, fun _ => rfl, q_444, q_173⟩
theorem bn_1 : mx_born 1 [.null, .null, .null, .int 0, .int 0, .int 0, .int 0, .int 0, .int 0, .int 0, .int 0] := ⟨RX1, TX1, tyX1, rfl, tyX1_ok, by decide, fun _ => rfl, q_537, q_177⟩
theorem bn_2 : mx_born 2 [.null, .null, .int 0, .int 0, .int 0, .int 0] := ⟨RX2, TX2, tyX2, rfl, tyX2_ok, by decide, fun _ => rfl, q_543, q_178⟩
theorem bn_3 : mx_born 3 [.null, .null, .int 0] := ⟨RX3, TX3, tyX3, rfl, tyX3_ok, by decide, fun _ => rfl, q_406, q_172⟩
theorem bn_4 : mx_born 4 [.null, .null, .null, .null, .null, .null, .null, .null, .int 0, .int 0, .int 0, .int 0, .int 0] := ⟨RX4, TX4, tyX4, rfl, tyX4_ok, by decide, fun _ => rfl, q_293, q_170⟩
theorem bn_5 : mx_born 5 [.null, .null, .null, .int 0] := ⟨RX5, TX5, tyX5, rfl, tyX5_ok, by decide, fun _ => rfl, q_508, q_176⟩
theorem bn_6 : mx_born 6 [.null, .null, .null, .int 0, .int 0, .int 0] := ⟨RX6, TX6, tyX6, rfl, tyX6_ok, by decide, fun _ => rfl, q_287, q_169⟩
theorem bn_7 : mx_born 7 [.null, .int 0, .int 0, .int 0] := ⟨RX7, TX7, tyX7, rfl, tyX7_ok, by decide, fun _ => rfl, q_482, q_175⟩
theorem bn_8 : mx_born 8 [.null, .null, .null, .null, .null, .null, .null, .int 0, .int 0] := ⟨RX8, TX8, tyX8, rfl, tyX8_ok, by decide, fun _ => rfl, q_476, q_174⟩
theorem bn_9 : mx_born 9 [.null, .null, .null, .int 0, .int 0, .int 0, .int 0, .int 0, .long 0] := ⟨RX9, TX9, tyX9, rfl, tyX9_ok, by decide, fun _ => rfl, q_196, q_164⟩
theorem bn_10 : mx_born 10 [.null, .null, .null, .null, .null, .null, .int 0] := ⟨RX10, TX10, tyX10, rfl, tyX10_ok, by decide, fun _ => rfl, q_299, q_171⟩
theorem bn_11 : mx_born 11 [.null, .null, .null, .null, .int 0, .int 0, .int 0, .int 0, .int 0, .null, .null, .null, .null, .null, .null, .null] := ⟨RX11, TX11, tyX11, rfl, tyX11_ok, by decide, fun _ => rfl, q_188, q_163⟩
theorem bn_12 : mx_born 12 [.int 0, .null, .int 0, .int 0, .null, .null, .null, .int 0, .int 0, .null, .null, .null, .null, .null, .null, .int 0, .int 0, .int 0, .int 0, .int 0, .int 0, .int 0, .null, .null, .null, .null, .null] := ⟨RX12, TX12, tyX12, rfl, tyX12_ok, by decide, fun _ => rfl, q_1685, q_179⟩
theorem mx_aok_ok : mx_aok := ⟨q_331, q_285, q_284, q_332⟩
theorem mx_obj_ok : mx_obj := ⟨q_193, q_194⟩
theorem dJ0_length_8abf5_0 : decode cJ0_length_8abf5 0 = .ok (.aload_n 0, 1) := by decide +kernel
theorem dJ0_length_8abf5_1 : decode cJ0_length_8abf5 1 = .ok (.getfield 9, 3) := by decide +kernel
theorem dJ0_length_8abf5_4 : decode cJ0_length_8abf5 4 = .ok (.arraylength, 1) := by decide +kernel
theorem dJ0_length_8abf5_5 : decode cJ0_length_8abf5 5 = .ok (.aload_n 0, 1) := by decide +kernel
theorem dJ0_length_8abf5_6 : decode cJ0_length_8abf5 6 = .ok (.invokevirtual 335, 3) := by decide +kernel
theorem dJ0_length_8abf5_9 : decode cJ0_length_8abf5 9 = .ok (.ishr, 1) := by decide +kernel
theorem dJ0_length_8abf5_10 : decode cJ0_length_8abf5 10 = .ok (.ireturn, 1) := by decide +kernel
theorem dJ0_charAt_5068e_0 : decode cJ0_charAt_5068e 0 = .ok (.aload_n 0, 1) := by decide +kernel
theorem dJ0_charAt_5068e_1 : decode cJ0_charAt_5068e 1 = .ok (.invokevirtual 492, 3) := by decide +kernel
theorem dJ0_charAt_5068e_4 : decode cJ0_charAt_5068e 4 = .ok (.ifCond .eq 12, 3) := by decide +kernel
theorem dJ0_charAt_5068e_7 : decode cJ0_charAt_5068e 7 = .ok (.aload_n 0, 1) := by decide +kernel
theorem dJ0_charAt_5068e_8 : decode cJ0_charAt_5068e 8 = .ok (.getfield 9, 3) := by decide +kernel
theorem dJ0_charAt_5068e_11 : decode cJ0_charAt_5068e 11 = .ok (.iload_n 1, 1) := by decide +kernel
theorem dJ0_charAt_5068e_12 : decode cJ0_charAt_5068e 12 = .ok (.invokestatic 495, 3) := by decide +kernel
theorem dJ0_charAt_5068e_15 : decode cJ0_charAt_5068e 15 = .ok (.ireturn, 1) := by decide +kernel
theorem dJ0_charAt_5068e_16 : decode cJ0_charAt_5068e 16 = .ok (.aload_n 0, 1) := by decide +kernel
theorem dJ0_charAt_5068e_17 : decode cJ0_charAt_5068e 17 = .ok (.getfield 9, 3) := by decide +kernel
theorem dJ0_charAt_5068e_20 : decode cJ0_charAt_5068e 20 = .ok (.iload_n 1, 1) := by decide +kernel
theorem dJ0_charAt_5068e_21 : decode cJ0_charAt_5068e 21 = .ok (.invokestatic 498, 3) := by decide +kernel
theorem dJ0_charAt_5068e_24 : decode cJ0_charAt_5068e 24 = .ok (.ireturn, 1) := by decide +kernel
theorem dJ0_coder_7d493_0 : decode cJ0_coder_7d493 0 = .ok (.getstatic 38, 3) := by decide +kernel
theorem dJ0_coder_7d493_3 : decode cJ0_coder_7d493 3 = .ok (.ifCond .eq 10, 3) := by decide +kernel
theorem dJ0_coder_7d493_6 : decode cJ0_coder_7d493 6 = .ok (.aload_n 0, 1) := by decide +kernel
theorem dJ0_coder_7d493_7 : decode cJ0_coder_7d493 7 = .ok (.getfield 15, 3) := by decide +kernel
theorem dJ0_coder_7d493_10 : decode cJ0_coder_7d493 10 = .ok (.goto 4, 3) := by decide +kernel
theorem dJ0_coder_7d493_13 : decode cJ0_coder_7d493 13 = .ok (.iconst 1, 1) := by decide +kernel
theorem dJ0_coder_7d493_14 : decode cJ0_coder_7d493 14 = .ok (.ireturn, 1) := by decide +kernel
theorem dJ0_isLatin1_aae02_0 : decode cJ0_isLatin1_aae02 0 = .ok (.getstatic 38, 3) := by decide +kernel
theorem dJ0_isLatin1_aae02_3 : decode cJ0_isLatin1_aae02 3 = .ok (.ifCond .eq 14, 3) := by decide +kernel
theorem dJ0_isLatin1_aae02_6 : decode cJ0_isLatin1_aae02 6 = .ok (.aload_n 0, 1) := by decide +kernel
theorem dJ0_isLatin1_aae02_7 : decode cJ0_isLatin1_aae02 7 = .ok (.getfield 15, 3) := by decide +kernel
theorem dJ0_isLatin1_aae02_10 : decode cJ0_isLatin1_aae02 10 = .ok (.ifCond .ne 7, 3) := by decide +kernel
theorem dJ0_isLatin1_aae02_13 : decode cJ0_isLatin1_aae02 13 = .ok (.iconst 1, 1) := by decide +kernel
theorem dJ0_isLatin1_aae02_14 : decode cJ0_isLatin1_aae02 14 = .ok (.goto 4, 3) := by decide +kernel
theorem dJ0_isLatin1_aae02_17 : decode cJ0_isLatin1_aae02 17 = .ok (.iconst 0, 1) := by decide +kernel
theorem dJ0_isLatin1_aae02_18 : decode cJ0_isLatin1_aae02 18 = .ok (.ireturn, 1) := by decide +kernel
theorem dJ0_checkIndex_df160_0 : decode cJ0_checkIndex_df160 0 = .ok (.iload_n 0, 1) := by decide +kernel
theorem dJ0_checkIndex_df160_1 : decode cJ0_checkIndex_df160 1 = .ok (.iload_n 1, 1) := by decide +kernel
theorem dJ0_checkIndex_df160_2 : decode cJ0_checkIndex_df160 2 = .ok (.getstatic 1053, 3) := by decide +kernel
theorem dJ0_checkIndex_df160_5 : decode cJ0_checkIndex_df160 5 = .ok (.invokestatic 1059, 3) := by decide +kernel
theorem dJ0_checkIndex_df160_8 : decode cJ0_checkIndex_df160 8 = .ok (.pop, 1) := by decide +kernel
theorem dJ0_checkIndex_df160_9 : decode cJ0_checkIndex_df160 9 = .ok (.return_, 1) := by decide +kernel
theorem dJ1_charAt_3b067_0 : decode cJ1_charAt_3b067 0 = .ok (.iload_n 1, 1) := by decide +kernel
theorem dJ1_charAt_3b067_1 : decode cJ1_charAt_3b067 1 = .ok (.aload_n 0, 1) := by decide +kernel
theorem dJ1_charAt_3b067_2 : decode cJ1_charAt_3b067 2 = .ok (.arraylength, 1) := by decide +kernel
theorem dJ1_charAt_3b067_3 : decode cJ1_charAt_3b067 3 = .ok (.invokestatic 9, 3) := by decide +kernel
theorem dJ1_charAt_3b067_6 : decode cJ1_charAt_3b067 6 = .ok (.aload_n 0, 1) := by decide +kernel
theorem dJ1_charAt_3b067_7 : decode cJ1_charAt_3b067 7 = .ok (.iload_n 1, 1) := by decide +kernel
theorem dJ1_charAt_3b067_8 : decode cJ1_charAt_3b067 8 = .ok (.baload, 1) := by decide +kernel
theorem dJ1_charAt_3b067_9 : decode cJ1_charAt_3b067 9 = .ok (.sipush 255, 3) := by decide +kernel
theorem dJ1_charAt_3b067_12 : decode cJ1_charAt_3b067 12 = .ok (.iand, 1) := by decide +kernel
theorem dJ1_charAt_3b067_13 : decode cJ1_charAt_3b067 13 = .ok (.i2c, 1) := by decide +kernel
theorem dJ1_charAt_3b067_14 : decode cJ1_charAt_3b067 14 = .ok (.ireturn, 1) := by decide +kernel
theorem dJ3_checkIndex_8e157_0 : decode cJ3_checkIndex_8e157 0 = .ok (.iload_n 0, 1) := by decide +kernel
theorem dJ3_checkIndex_8e157_1 : decode cJ3_checkIndex_8e157 1 = .ok (.ifCond .lt 8, 3) := by decide +kernel
theorem dJ3_checkIndex_8e157_4 : decode cJ3_checkIndex_8e157 4 = .ok (.iload_n 0, 1) := by decide +kernel
theorem dJ3_checkIndex_8e157_5 : decode cJ3_checkIndex_8e157 5 = .ok (.iload_n 1, 1) := by decide +kernel
theorem dJ3_checkIndex_8e157_6 : decode cJ3_checkIndex_8e157 6 = .ok (.if_icmp .lt 10, 3) := by decide +kernel
theorem dJ3_checkIndex_8e157_9 : decode cJ3_checkIndex_8e157 9 = .ok (.aload_n 2, 1) := by decide +kernel
theorem dJ3_checkIndex_8e157_10 : decode cJ3_checkIndex_8e157 10 = .ok (.iload_n 0, 1) := by decide +kernel
theorem dJ3_checkIndex_8e157_11 : decode cJ3_checkIndex_8e157 11 = .ok (.iload_n 1, 1) := by decide +kernel
theorem dJ3_checkIndex_8e157_12 : decode cJ3_checkIndex_8e157 12 = .ok (.invokestatic 95, 3) := by decide +kernel
theorem dJ3_checkIndex_8e157_15 : decode cJ3_checkIndex_8e157 15 = .ok (.athrow, 1) := by decide +kernel
theorem dJ3_checkIndex_8e157_16 : decode cJ3_checkIndex_8e157 16 = .ok (.iload_n 0, 1) := by decide +kernel
theorem dJ3_checkIndex_8e157_17 : decode cJ3_checkIndex_8e157 17 = .ok (.ireturn, 1) := by decide +kernel
theorem tb_44 : Cond.methodLink RX9 44 yJ0_length_8abf5 ∈ mm_tbl := q_202
theorem tb_49 : Cond.methodLink RX9 49 yJ0_charAt_5068e ∈ mm_tbl := q_212
