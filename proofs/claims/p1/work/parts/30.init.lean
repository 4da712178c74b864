theorem t_11 : (Jvm.Cond.initialized "TypeGuard$Entry") ∈ TW := List.mem_filter.mpr ⟨List.mem_append_right _ (List.mem_append_left _ (List.mem_of_getElem? (i := 11) rfl)), rfl⟩
theorem t_32 : (Jvm.Cond.methodLink "TypeGuard" (1 : Nat) ({ cls := "java/lang/Object", name := "<init>", desc := "()V" } : Jvm.MethodName)) ∈ TW := List.mem_filter.mpr ⟨List.mem_append_right _ (List.mem_append_left _ (List.mem_of_getElem? (i := 32) rfl)), rfl⟩
theorem t_33 : (Jvm.Cond.instanceMethod ({ cls := "java/lang/Object", name := "<init>", desc := "()V" } : Jvm.MethodName)) ∈ TW := List.mem_filter.mpr ⟨List.mem_append_right _ (List.mem_append_left _ (List.mem_of_getElem? (i := 33) rfl)), rfl⟩
theorem t_34 : (Jvm.Cond.code ({ cls := "java/lang/Object", name := "<init>", desc := "()V" } : Jvm.MethodName) object_method_1_code (1 : Nat) (Option.none : Option Jvm.ClassFile.FieldType)) ∈ TW := List.mem_filter.mpr ⟨List.mem_append_right _ (List.mem_append_left _ (List.mem_of_getElem? (i := 34) rfl)), rfl⟩
theorem t_35 : (Jvm.Cond.classLink "TypeGuard" (13 : Nat) "TypeGuard$Reader") ∈ TW := List.mem_filter.mpr ⟨List.mem_append_right _ (List.mem_append_left _ (List.mem_of_getElem? (i := 35) rfl)), rfl⟩
theorem t_36 : (Jvm.Cond.instantiable "TypeGuard$Reader" (6 : Nat)) ∈ TW := List.mem_filter.mpr ⟨List.mem_append_right _ (List.mem_append_left _ (List.mem_of_getElem? (i := 36) rfl)), rfl⟩
theorem t_37 : (Jvm.Cond.methodLinkNest "TypeGuard" (15 : Nat) ({ cls := "TypeGuard$Reader", name := "<init>", desc := "()V" } : Jvm.MethodName) "TypeGuard") ∈ NW := List.mem_filter.mpr ⟨List.mem_append_right _ (List.mem_append_left _ (List.mem_of_getElem? (i := 37) rfl)), rfl⟩
theorem t_38 : (Jvm.Cond.instanceMethod ({ cls := "TypeGuard$Reader", name := "<init>", desc := "()V" } : Jvm.MethodName)) ∈ TW := List.mem_filter.mpr ⟨List.mem_append_right _ (List.mem_append_left _ (List.mem_of_getElem? (i := 38) rfl)), rfl⟩
theorem t_39 : (Jvm.Cond.code ({ cls := "TypeGuard$Reader", name := "<init>", desc := "()V" } : Jvm.MethodName) prog_7_method_1_code (1 : Nat) (Option.none : Option Jvm.ClassFile.FieldType)) ∈ TW := List.mem_filter.mpr ⟨List.mem_append_right _ (List.mem_append_left _ (List.mem_of_getElem? (i := 39) rfl)), rfl⟩
theorem t_40 : (Jvm.Cond.methodLink "TypeGuard$Reader" (3 : Nat) ({ cls := "java/lang/Object", name := "<init>", desc := "()V" } : Jvm.MethodName)) ∈ TW := List.mem_filter.mpr ⟨List.mem_append_right _ (List.mem_append_left _ (List.mem_of_getElem? (i := 40) rfl)), rfl⟩
theorem t_41 : (Jvm.Cond.classLink "TypeGuard$Reader" (9 : Nat) "TypeGuard$Tokens") ∈ TW := List.mem_filter.mpr ⟨List.mem_append_right _ (List.mem_append_left _ (List.mem_of_getElem? (i := 41) rfl)), rfl⟩
theorem t_42 : (Jvm.Cond.instantiable "TypeGuard$Tokens" (5 : Nat)) ∈ TW := List.mem_filter.mpr ⟨List.mem_append_right _ (List.mem_append_left _ (List.mem_of_getElem? (i := 42) rfl)), rfl⟩
theorem t_43 : (Jvm.Cond.methodLinkNest "TypeGuard$Reader" (11 : Nat) ({ cls := "TypeGuard$Tokens", name := "<init>", desc := "()V" } : Jvm.MethodName) "TypeGuard") ∈ NW := List.mem_filter.mpr ⟨List.mem_append_right _ (List.mem_append_left _ (List.mem_of_getElem? (i := 43) rfl)), rfl⟩
theorem t_44 : (Jvm.Cond.instanceMethod ({ cls := "TypeGuard$Tokens", name := "<init>", desc := "()V" } : Jvm.MethodName)) ∈ TW := List.mem_filter.mpr ⟨List.mem_append_right _ (List.mem_append_left _ (List.mem_of_getElem? (i := 44) rfl)), rfl⟩
theorem t_45 : (Jvm.Cond.code ({ cls := "TypeGuard$Tokens", name := "<init>", desc := "()V" } : Jvm.MethodName) prog_9_method_1_code (1 : Nat) (Option.none : Option Jvm.ClassFile.FieldType)) ∈ TW := List.mem_filter.mpr ⟨List.mem_append_right _ (List.mem_append_left _ (List.mem_of_getElem? (i := 45) rfl)), rfl⟩
theorem t_46 : (Jvm.Cond.methodLink "TypeGuard$Tokens" (3 : Nat) ({ cls := "java/lang/Object", name := "<init>", desc := "()V" } : Jvm.MethodName)) ∈ TW := List.mem_filter.mpr ⟨List.mem_append_right _ (List.mem_append_left _ (List.mem_of_getElem? (i := 46) rfl)), rfl⟩
theorem t_63 : (Jvm.Cond.arrayClass Jvm.ClassFile.FieldType.char) ∈ TW := List.mem_filter.mpr ⟨List.mem_append_right _ (List.mem_append_left _ (List.mem_of_getElem? (i := 63) rfl)), rfl⟩
theorem t_64 : (Jvm.Cond.arrayClass Jvm.ClassFile.FieldType.int) ∈ TW := List.mem_filter.mpr ⟨List.mem_append_right _ (List.mem_append_left _ (List.mem_of_getElem? (i := 64) rfl)), rfl⟩
theorem t_65 : (Jvm.Cond.arrayClass Jvm.ClassFile.FieldType.long) ∈ TW := List.mem_filter.mpr ⟨List.mem_append_right _ (List.mem_append_left _ (List.mem_of_getElem? (i := 65) rfl)), rfl⟩
theorem t_66 : (Jvm.Cond.classLink "TypeGuard$Reader" (18 : Nat) "TypeGuard$Policy") ∈ TW := List.mem_filter.mpr ⟨List.mem_append_right _ (List.mem_append_left _ (List.mem_of_getElem? (i := 66) rfl)), rfl⟩
theorem t_67 : (Jvm.Cond.instantiable "TypeGuard$Policy" (9 : Nat)) ∈ TW := List.mem_filter.mpr ⟨List.mem_append_right _ (List.mem_append_left _ (List.mem_of_getElem? (i := 67) rfl)), rfl⟩
theorem t_68 : (Jvm.Cond.methodLink "TypeGuard$Reader" (20 : Nat) ({ cls := "TypeGuard$Policy", name := "<init>", desc := "()V" } : Jvm.MethodName)) ∈ TW := List.mem_filter.mpr ⟨List.mem_append_right _ (List.mem_append_left _ (List.mem_of_getElem? (i := 68) rfl)), rfl⟩
theorem t_69 : (Jvm.Cond.instanceMethod ({ cls := "TypeGuard$Policy", name := "<init>", desc := "()V" } : Jvm.MethodName)) ∈ TW := List.mem_filter.mpr ⟨List.mem_append_right _ (List.mem_append_left _ (List.mem_of_getElem? (i := 69) rfl)), rfl⟩
theorem t_70 : (Jvm.Cond.code ({ cls := "TypeGuard$Policy", name := "<init>", desc := "()V" } : Jvm.MethodName) prog_6_method_1_code (2 : Nat) (Option.none : Option Jvm.ClassFile.FieldType)) ∈ TW := List.mem_filter.mpr ⟨List.mem_append_right _ (List.mem_append_left _ (List.mem_of_getElem? (i := 70) rfl)), rfl⟩
theorem t_71 : (Jvm.Cond.methodLink "TypeGuard$Policy" (3 : Nat) ({ cls := "java/lang/Object", name := "<init>", desc := "()V" } : Jvm.MethodName)) ∈ TW := List.mem_filter.mpr ⟨List.mem_append_right _ (List.mem_append_left _ (List.mem_of_getElem? (i := 71) rfl)), rfl⟩
theorem t_72 : (Jvm.Cond.classLink "TypeGuard$Policy" (9 : Nat) "TypeGuard$Names") ∈ TW := List.mem_filter.mpr ⟨List.mem_append_right _ (List.mem_append_left _ (List.mem_of_getElem? (i := 72) rfl)), rfl⟩
theorem t_73 : (Jvm.Cond.instantiable "TypeGuard$Names" (2 : Nat)) ∈ TW := List.mem_filter.mpr ⟨List.mem_append_right _ (List.mem_append_left _ (List.mem_of_getElem? (i := 73) rfl)), rfl⟩
theorem t_74 : (Jvm.Cond.methodLink "TypeGuard$Policy" (11 : Nat) ({ cls := "TypeGuard$Names", name := "<init>", desc := "(I)V" } : Jvm.MethodName)) ∈ TW := List.mem_filter.mpr ⟨List.mem_append_right _ (List.mem_append_left _ (List.mem_of_getElem? (i := 74) rfl)), rfl⟩
theorem t_75 : (Jvm.Cond.instanceMethod ({ cls := "TypeGuard$Names", name := "<init>", desc := "(I)V" } : Jvm.MethodName)) ∈ TW := List.mem_filter.mpr ⟨List.mem_append_right _ (List.mem_append_left _ (List.mem_of_getElem? (i := 75) rfl)), rfl⟩
theorem t_76 : (Jvm.Cond.code ({ cls := "TypeGuard$Names", name := "<init>", desc := "(I)V" } : Jvm.MethodName) prog_4_method_1_code (2 : Nat) (Option.none : Option Jvm.ClassFile.FieldType)) ∈ TW := List.mem_filter.mpr ⟨List.mem_append_right _ (List.mem_append_left _ (List.mem_of_getElem? (i := 76) rfl)), rfl⟩
theorem t_77 : (Jvm.Cond.methodLink "TypeGuard$Names" (3 : Nat) ({ cls := "java/lang/Object", name := "<init>", desc := "()V" } : Jvm.MethodName)) ∈ TW := List.mem_filter.mpr ⟨List.mem_append_right _ (List.mem_append_left _ (List.mem_of_getElem? (i := 77) rfl)), rfl⟩
theorem t_89 : (Jvm.Cond.classLink "TypeGuard$Policy" (41 : Nat) "TypeGuard$Rule") ∈ TW := List.mem_filter.mpr ⟨List.mem_append_right _ (List.mem_append_left _ (List.mem_of_getElem? (i := 89) rfl)), rfl⟩
theorem t_91 : (Jvm.Cond.instantiable "TypeGuard$Rule" (12 : Nat)) ∈ TW := List.mem_filter.mpr ⟨List.mem_append_right _ (List.mem_append_left _ (List.mem_of_getElem? (i := 91) rfl)), rfl⟩
theorem t_92 : (Jvm.Cond.methodLinkNest "TypeGuard$Policy" (47 : Nat) ({ cls := "TypeGuard$Rule", name := "<init>", desc := "()V" } : Jvm.MethodName) "TypeGuard") ∈ NW := List.mem_filter.mpr ⟨List.mem_append_right _ (List.mem_append_left _ (List.mem_of_getElem? (i := 92) rfl)), rfl⟩
theorem t_93 : (Jvm.Cond.instanceMethod ({ cls := "TypeGuard$Rule", name := "<init>", desc := "()V" } : Jvm.MethodName)) ∈ TW := List.mem_filter.mpr ⟨List.mem_append_right _ (List.mem_append_left _ (List.mem_of_getElem? (i := 93) rfl)), rfl⟩
theorem t_94 : (Jvm.Cond.code ({ cls := "TypeGuard$Rule", name := "<init>", desc := "()V" } : Jvm.MethodName) prog_8_method_1_code (1 : Nat) (Option.none : Option Jvm.ClassFile.FieldType)) ∈ TW := List.mem_filter.mpr ⟨List.mem_append_right _ (List.mem_append_left _ (List.mem_of_getElem? (i := 94) rfl)), rfl⟩
theorem t_95 : (Jvm.Cond.methodLink "TypeGuard$Rule" (3 : Nat) ({ cls := "java/lang/Object", name := "<init>", desc := "()V" } : Jvm.MethodName)) ∈ TW := List.mem_filter.mpr ⟨List.mem_append_right _ (List.mem_append_left _ (List.mem_of_getElem? (i := 95) rfl)), rfl⟩
theorem t_96 : (Jvm.Cond.fieldLink "TypeGuard$Rule" (9 : Nat) "TypeGuard$Word" "OTHER" "LTypeGuard$Word;") ∈ TW := List.mem_filter.mpr ⟨List.mem_append_right _ (List.mem_append_left _ (List.mem_of_getElem? (i := 96) rfl)), rfl⟩
theorem t_98 : (Jvm.Cond.classLink "TypeGuard$Rule" (24 : Nat) "TypeGuard$TypeSet") ∈ TW := List.mem_filter.mpr ⟨List.mem_append_right _ (List.mem_append_left _ (List.mem_of_getElem? (i := 98) rfl)), rfl⟩
theorem t_99 : (Jvm.Cond.instantiable "TypeGuard$TypeSet" (6 : Nat)) ∈ TW := List.mem_filter.mpr ⟨List.mem_append_right _ (List.mem_append_left _ (List.mem_of_getElem? (i := 99) rfl)), rfl⟩
theorem t_100 : (Jvm.Cond.methodLinkNest "TypeGuard$Rule" (26 : Nat) ({ cls := "TypeGuard$TypeSet", name := "<init>", desc := "()V" } : Jvm.MethodName) "TypeGuard") ∈ NW := List.mem_filter.mpr ⟨List.mem_append_right _ (List.mem_append_left _ (List.mem_of_getElem? (i := 100) rfl)), rfl⟩
theorem t_101 : (Jvm.Cond.instanceMethod ({ cls := "TypeGuard$TypeSet", name := "<init>", desc := "()V" } : Jvm.MethodName)) ∈ TW := List.mem_filter.mpr ⟨List.mem_append_right _ (List.mem_append_left _ (List.mem_of_getElem? (i := 101) rfl)), rfl⟩
theorem t_102 : (Jvm.Cond.code ({ cls := "TypeGuard$TypeSet", name := "<init>", desc := "()V" } : Jvm.MethodName) prog_10_method_1_code (1 : Nat) (Option.none : Option Jvm.ClassFile.FieldType)) ∈ TW := List.mem_filter.mpr ⟨List.mem_append_right _ (List.mem_append_left _ (List.mem_of_getElem? (i := 102) rfl)), rfl⟩
theorem t_103 : (Jvm.Cond.methodLink "TypeGuard$TypeSet" (1 : Nat) ({ cls := "java/lang/Object", name := "<init>", desc := "()V" } : Jvm.MethodName)) ∈ TW := List.mem_filter.mpr ⟨List.mem_append_right _ (List.mem_append_left _ (List.mem_of_getElem? (i := 103) rfl)), rfl⟩
theorem t_129 : (Jvm.Cond.arrayClass Jvm.ClassFile.FieldType.boolean) ∈ TW := List.mem_filter.mpr ⟨List.mem_append_right _ (List.mem_append_left _ (List.mem_of_getElem? (i := 129) rfl)), rfl⟩
theorem t_157 : (Jvm.Cond.fieldLink "TypeGuard$Rule" (38 : Nat) "TypeGuard$Rule" "movedTo" "I") ∈ TW := List.mem_filter.mpr ⟨List.mem_append_right _ (List.mem_append_left _ (List.mem_of_getElem? (i := 157) rfl)), rfl⟩
theorem t_248 : (Jvm.Cond.classLink "TypeGuard" (20 : Nat) "TypeGuard$Policy") ∈ TW := List.mem_filter.mpr ⟨List.mem_append_right _ (List.mem_append_right _ (List.mem_append_left _ (List.mem_of_getElem? (i := 8) rfl))), rfl⟩
theorem t_249 : (Jvm.Cond.methodLink "TypeGuard" (22 : Nat) ({ cls := "TypeGuard$Policy", name := "<init>", desc := "()V" } : Jvm.MethodName)) ∈ TW := List.mem_filter.mpr ⟨List.mem_append_right _ (List.mem_append_right _ (List.mem_append_left _ (List.mem_of_getElem? (i := 9) rfl))), rfl⟩
theorem t_250 : (Jvm.Cond.classLink "TypeGuard" (37 : Nat) "TypeGuard$VectorCache") ∈ TW := List.mem_filter.mpr ⟨List.mem_append_right _ (List.mem_append_right _ (List.mem_append_left _ (List.mem_of_getElem? (i := 10) rfl))), rfl⟩
theorem t_251 : (Jvm.Cond.instantiable "TypeGuard$VectorCache" (5 : Nat)) ∈ TW := List.mem_filter.mpr ⟨List.mem_append_right _ (List.mem_append_right _ (List.mem_append_left _ (List.mem_of_getElem? (i := 11) rfl))), rfl⟩
theorem t_252 : (Jvm.Cond.methodLink "TypeGuard" (39 : Nat) ({ cls := "TypeGuard$VectorCache", name := "<init>", desc := "()V" } : Jvm.MethodName)) ∈ TW := List.mem_filter.mpr ⟨List.mem_append_right _ (List.mem_append_right _ (List.mem_append_left _ (List.mem_of_getElem? (i := 12) rfl))), rfl⟩
theorem t_253 : (Jvm.Cond.instanceMethod ({ cls := "TypeGuard$VectorCache", name := "<init>", desc := "()V" } : Jvm.MethodName)) ∈ TW := List.mem_filter.mpr ⟨List.mem_append_right _ (List.mem_append_right _ (List.mem_append_left _ (List.mem_of_getElem? (i := 13) rfl))), rfl⟩
theorem t_254 : (Jvm.Cond.code ({ cls := "TypeGuard$VectorCache", name := "<init>", desc := "()V" } : Jvm.MethodName) prog_11_method_1_code (2 : Nat) (Option.none : Option Jvm.ClassFile.FieldType)) ∈ TW := List.mem_filter.mpr ⟨List.mem_append_right _ (List.mem_append_right _ (List.mem_append_left _ (List.mem_of_getElem? (i := 14) rfl))), rfl⟩
theorem t_255 : (Jvm.Cond.methodLink "TypeGuard$VectorCache" (3 : Nat) ({ cls := "java/lang/Object", name := "<init>", desc := "()V" } : Jvm.MethodName)) ∈ TW := List.mem_filter.mpr ⟨List.mem_append_right _ (List.mem_append_right _ (List.mem_append_left _ (List.mem_of_getElem? (i := 15) rfl))), rfl⟩
theorem t_256 : (Jvm.Cond.classLink "TypeGuard$VectorCache" (9 : Nat) "TypeGuard$Entry") ∈ TW := List.mem_filter.mpr ⟨List.mem_append_right _ (List.mem_append_right _ (List.mem_append_left _ (List.mem_of_getElem? (i := 16) rfl))), rfl⟩
theorem t_258 : (Jvm.Cond.instantiable "TypeGuard$Entry" (8 : Nat)) ∈ TW := List.mem_filter.mpr ⟨List.mem_append_right _ (List.mem_append_right _ (List.mem_append_left _ (List.mem_of_getElem? (i := 18) rfl))), rfl⟩
theorem t_259 : (Jvm.Cond.methodLinkNest "TypeGuard$VectorCache" (17 : Nat) ({ cls := "TypeGuard$Entry", name := "<init>", desc := "()V" } : Jvm.MethodName) "TypeGuard") ∈ NW := List.mem_filter.mpr ⟨List.mem_append_right _ (List.mem_append_right _ (List.mem_append_left _ (List.mem_of_getElem? (i := 19) rfl))), rfl⟩
theorem t_260 : (Jvm.Cond.instanceMethod ({ cls := "TypeGuard$Entry", name := "<init>", desc := "()V" } : Jvm.MethodName)) ∈ TW := List.mem_filter.mpr ⟨List.mem_append_right _ (List.mem_append_right _ (List.mem_append_left _ (List.mem_of_getElem? (i := 20) rfl))), rfl⟩
theorem t_261 : (Jvm.Cond.code ({ cls := "TypeGuard$Entry", name := "<init>", desc := "()V" } : Jvm.MethodName) prog_3_method_1_code (1 : Nat) (Option.none : Option Jvm.ClassFile.FieldType)) ∈ TW := List.mem_filter.mpr ⟨List.mem_append_right _ (List.mem_append_right _ (List.mem_append_left _ (List.mem_of_getElem? (i := 21) rfl))), rfl⟩
theorem t_262 : (Jvm.Cond.methodLink "TypeGuard$Entry" (3 : Nat) ({ cls := "java/lang/Object", name := "<init>", desc := "()V" } : Jvm.MethodName)) ∈ TW := List.mem_filter.mpr ⟨List.mem_append_right _ (List.mem_append_right _ (List.mem_append_left _ (List.mem_of_getElem? (i := 22) rfl))), rfl⟩
theorem t_269 : (Jvm.Cond.fieldLink "TypeGuard$Entry" (9 : Nat) "TypeGuard$Entry" "sequence" "I") ∈ TW := List.mem_filter.mpr ⟨List.mem_append_right _ (List.mem_append_right _ (List.mem_append_left _ (List.mem_of_getElem? (i := 29) rfl))), rfl⟩
theorem t_312 : (Jvm.Cond.classLink "TypeGuard" (44 : Nat) "TypeGuard$NoteLog") ∈ TW := List.mem_filter.mpr ⟨List.mem_append_right _ (List.mem_append_right _ (List.mem_append_left _ (List.mem_of_getElem? (i := 72) rfl))), rfl⟩
theorem t_313 : (Jvm.Cond.instantiable "TypeGuard$NoteLog" (2 : Nat)) ∈ TW := List.mem_filter.mpr ⟨List.mem_append_right _ (List.mem_append_right _ (List.mem_append_left _ (List.mem_of_getElem? (i := 73) rfl))), rfl⟩
theorem t_314 : (Jvm.Cond.methodLinkNest "TypeGuard" (46 : Nat) ({ cls := "TypeGuard$NoteLog", name := "<init>", desc := "()V" } : Jvm.MethodName) "TypeGuard") ∈ NW := List.mem_filter.mpr ⟨List.mem_append_right _ (List.mem_append_right _ (List.mem_append_left _ (List.mem_of_getElem? (i := 74) rfl))), rfl⟩
theorem t_315 : (Jvm.Cond.instanceMethod ({ cls := "TypeGuard$NoteLog", name := "<init>", desc := "()V" } : Jvm.MethodName)) ∈ TW := List.mem_filter.mpr ⟨List.mem_append_right _ (List.mem_append_right _ (List.mem_append_left _ (List.mem_of_getElem? (i := 75) rfl))), rfl⟩
theorem t_316 : (Jvm.Cond.code ({ cls := "TypeGuard$NoteLog", name := "<init>", desc := "()V" } : Jvm.MethodName) prog_5_method_1_code (1 : Nat) (Option.none : Option Jvm.ClassFile.FieldType)) ∈ TW := List.mem_filter.mpr ⟨List.mem_append_right _ (List.mem_append_right _ (List.mem_append_left _ (List.mem_of_getElem? (i := 76) rfl))), rfl⟩
theorem t_317 : (Jvm.Cond.methodLink "TypeGuard$NoteLog" (3 : Nat) ({ cls := "java/lang/Object", name := "<init>", desc := "()V" } : Jvm.MethodName)) ∈ TW := List.mem_filter.mpr ⟨List.mem_append_right _ (List.mem_append_right _ (List.mem_append_left _ (List.mem_of_getElem? (i := 77) rfl))), rfl⟩
theorem t_318 : (Jvm.Cond.classLink "TypeGuard$NoteLog" (9 : Nat) "[[I") ∈ TW := List.mem_filter.mpr ⟨List.mem_append_right _ (List.mem_append_right _ (List.mem_append_left _ (List.mem_of_getElem? (i := 78) rfl))), rfl⟩
theorem t_986 : (Jvm.Cond.methodLink "TypeGuardModel" (1 : Nat) ({ cls := "java/lang/Object", name := "<init>", desc := "()V" } : Jvm.MethodName)) ∈ TW := List.mem_filter.mpr ⟨List.mem_append_right _ (List.mem_append_right _ (List.mem_append_right _ (List.mem_append_right _ (List.mem_append_right _ (List.mem_append_left _ (List.mem_of_getElem? (i := 26) rfl)))))), rfl⟩
section CT2
variable {H : Heap} {D : va_G} {cA : Nat → ClassId} {b : Nat} {ad : Nat → Nat}
theorem ar_at {c : ClassId} {N : Nat} {f g : Nat → Option Nat} (h : ∀ j, j < N → f j = g j) : vp_cell c (N, .inr (.inr (.inr (.inr f)))) = vp_cell c (N, .inr (.inr (.inr (.inr g)))) := by
  rw [vp_cell_q, vp_cell_q]
  unfold arrV
  congr 2
  funext j
  show va_rf (f j.val) = va_rf (g j.val)
  rw [h j.val j.isLt]
theorem P_swap {ws : va_W} {q a : Nat} {E E' : va_E} (h : va_P D kCl ws H) (hq : ws[q]? = some (a, E)) (he : va_at D kCl (a, E) H → va_at D kCl (a, E') H) : va_P D kCl (ws.set q (a, E')) H := by
  intro i x hx
  have hl := (List.getElem?_eq_some_iff.mp hq).1
  by_cases hi : i = q
  · subst hi
    rw [List.getElem?_set_self hl] at hx
    cases hx
    exact he (h _ _ hq)
  · rw [List.getElem?_set_ne (Ne.symm hi)] at hx
    exact h i x hx
theorem P_arr {a : Nat} {E : va_E} {c : ClassId} {N : Nat} {f g : Nat → Option Nat} (hE : E = .inl (c, N, .inr (.inr (.inr (.inr g))))) (hfg : ∀ j, j < N → f j = g j) (h : va_at D kCl (a, .inl (c, N, .inr (.inr (.inr (.inr f))))) H) : va_at D kCl (a, E) H := by
  rw [hE]
  show H[a]? = some (vp_cell _ _)
  rw [← ar_at hfg]
  exact h
theorem az_10 {k : Nat} (h : kd k = 10) : cS cA b ad Z0 k = .inl (cA 4, 4, .inr (.inr (.inr (.inr (fun j => some (b + (k + (4 + 2 * j)))))))) := by
  show cS cA b ad (C0, M0, fun _ => 0) k = _
  rw [cS_c (kd_lt h (by decide))]
  simp only [cC, h]
theorem az_13 {k : Nat} (h : kd k = 13) : cS cA b ad Z0 k = .inl (cA 5, 24, .inr (.inr (.inr (.inr (fun j => some (b + (k + (9 + 4 * j)))))))) := by
  show cS cA b ad (C0, M0, fun _ => 0) k = _
  rw [cS_c (kd_lt h (by decide))]
  simp only [cC, h]
theorem az_21 {k : Nat} (h : kd k = 21) : cS cA b ad Z0 k = .inl (cA 6, 6, .inr (.inr (.inr (.inr (fun j => some (b + (k + (1 + j)))))))) := by
  show cS cA b ad (C0, M0, fun _ => 0) k = _
  rw [cS_c (kd_lt h (by decide))]
  simp only [cC, h]
theorem P_all {a a' m sz : Nat} (h : va_P D kCl (wI cA b ad (List.range' a m) ++ wI cA b ad (List.range' a' sz)) H) (ha : a' = a + m) : va_P D kCl (wI cA b ad (List.range' a (m + sz))) H := by
  have h1 := P_cat (X := []) (a := a) (m := m) (a' := a') (sz := sz) (by rw [List.nil_append]; exact h) ha
  rw [List.nil_append] at h1
  exact h1
end CT2
abbrev y_icTypeSet : MethodName := ({ cls := "TypeGuard$TypeSet", name := "<init>", desc := "()V" } : Jvm.MethodName)
theorem d_icTypeSet_0 : decode prog_10_method_1_code 0 = .ok (.aload_n 0, 1) := by decide +kernel
theorem d_icTypeSet_1 : decode prog_10_method_1_code 1 = .ok (.invokespecial 1, 3) := by decide +kernel
theorem d_icTypeSet_4 : decode prog_10_method_1_code 4 = .ok (.return_, 1) := by decide +kernel
set_option maxHeartbeats 8000000 in
set_option maxRecDepth 100000 in
theorem M_icTypeSet {l : Launch} {D : va_G} {cA : Nat → ClassId} {b : Nat} {ad : Nat → Nat} {k : Nat} (hk : kd k = 15) : Met l y_icTypeSet (Cond.code y_icTypeSet prog_10_method_1_code 1 none :: TW) { frames := 1, cells := 0, slots := 0, locals := 20 } (va_Pc [.ref (b + k)] (Kp D cA b ad k (.inr (6, [.int 0, .int 0, .int 0, .int 0, .int 0, .int 0])))) (Kq D cA b ad k 1) 0 0 (Ab (b + k)) := by
  refine Ct_ofK (by decide) rfl (Nat.le_of_ble_eq_true rfl) ?_
  intro p e R s m args below meth c ls Q H hR hQ hx hb hts hown hml hr hlk hnm hC hA hs0 hP hD hS hz hl
  have hRf : R.frames = 1 := by rw [hR]
  have hRl : R.locals = 20 := by rw [hR]
  have hown : s.vm.findClass "TypeGuard$TypeSet" = some m.cls := hown
  have hl : lv_has ls 1 [(0, .ref (b + k))] := hl
  refine lv_aload_n hx hb d_icTypeSet_0 rfl (lv_at hl 0 rfl) ?_
  refine W.objInit hx hb hown (hts _ t_103) (hts _ t_33) (hts _ t_34) rfl (hl.1.trans hml.symm) rfl d_icTypeSet_1 (by rw [hRf]; decide) (by rw [hRl]; exact Nat.le_of_ble_eq_true rfl) ?_
  show W p l e R s m args below meth c H [] 0 0 Q (F0 m 4 ls [])
  have e0 : (b + k, cS cA b ad Z0 k) = (b + k, .inr (6, [.int 0, .int 0, .int 0, .int 0, .int 0, .int 0])) := congrArg (Prod.mk (b + k)) (oz_15 hk)
  rw [← e0] at hP
  have hP : va_P D kCl (wI cA b ad (List.range' k 1)) H := hP
  exact kr_ret hQ hx hb hr hP hS (by omega) (by decide) (by decide) hlk d_icTypeSet_4
abbrev y_icNames : MethodName := ({ cls := "TypeGuard$Names", name := "<init>", desc := "(I)V" } : Jvm.MethodName)
theorem d_icNames_0 : decode prog_4_method_1_code 0 = .ok (.aload_n 0, 1) := by decide +kernel
theorem d_icNames_1 : decode prog_4_method_1_code 1 = .ok (.invokespecial 3, 3) := by decide +kernel
theorem d_icNames_4 : decode prog_4_method_1_code 4 = .ok (.aload_n 0, 1) := by decide +kernel
theorem d_icNames_5 : decode prog_4_method_1_code 5 = .ok (.iload_n 1, 1) := by decide +kernel
theorem d_icNames_6 : decode prog_4_method_1_code 6 = .ok (.newarray .long, 2) := by decide +kernel
theorem d_icNames_8 : decode prog_4_method_1_code 8 = .ok (.putfield 9, 3) := by decide +kernel
theorem d_icNames_11 : decode prog_4_method_1_code 11 = .ok (.return_, 1) := by decide +kernel
set_option maxHeartbeats 8000000 in
set_option maxRecDepth 100000 in
theorem M_icNames {l : Launch} {D : va_G} {cA : Nat → ClassId} {b : Nat} {ad : Nat → Nat} {k : Nat} (hk : kd k = 8) {x1 : Int32} (hc0 : ¬ x1 < 0) (hc1 : x1.toNatClampNeg = ln (k + 1)) (hc2 : ln (k + 1) ≤ 12) : Met l y_icNames (Cond.code y_icNames prog_4_method_1_code 2 none :: TW) { frames := 1, cells := 1, slots := 12, locals := 20 } (va_Pc [.ref (b + k), .int x1] (Kp D cA b ad k (.inr (4, [.null, .int 0])))) (Kq D cA b ad k 2) 1 12 (Ab (b + k)) := by
  refine Ct_ofK (by decide) rfl (Nat.le_of_ble_eq_true rfl) ?_
  intro p e R s m args below meth c ls Q H hR hQ hx hb hts hown hml hr hlk hnm hC hA hs0 hP hD hS hz hl
  have hRf : R.frames = 1 := by rw [hR]
  have hRl : R.locals = 20 := by rw [hR]
  have hown : s.vm.findClass "TypeGuard$Names" = some m.cls := hown
  have hl : lv_has ls 2 [(0, .ref (b + k)), (1, .int x1)] := hl
  refine lv_aload_n hx hb d_icNames_0 rfl (lv_at hl 0 rfl) ?_
  refine W.objInit hx hb hown (hts _ t_77) (hts _ t_33) (hts _ t_34) rfl (hl.1.trans hml.symm) rfl d_icNames_1 (by rw [hRf]; decide) (by rw [hRl]; exact Nat.le_of_ble_eq_true rfl) ?_
  show W p l e R s m args below meth c H [] 0 0 Q (F0 m 4 ls [])
  refine lv_aload_n hx hb d_icNames_4 rfl (lv_at hl 0 rfl) ?_
  refine lv_iload_n hx hb d_icNames_5 rfl (lv_at hl 1 rfl) ?_
  refine kr_arr (ad := ad) (atype := .long) (n := (k + 1)) (t := 1) (N := (ln (k + 1))) hx hb hts t_65 rfl hP hD hS (by omega) hz (az_9 (kx_8_1 hk)) (hC.1.2 1 _ rfl).2 (fun _ => rfl) hc0 hc1 (by show ln (k + 1) * 8 ≤ _; omega) (by rw [hR]; exact Nat.le_of_ble_eq_true rfl) (by rw [hR]; show 0 + _ ≤ 12; omega) d_icNames_6 (fun H hP hD hS hz => ?_)
  have hP : va_P D kCl [(b + k, .inr (4, [.null, .int 0])), (b + (k + 1), cS cA b ad Z0 (k + 1))] H := hP
  have hD : va_D (Ab (b + k)) [(b + k, .inr (4, [.null, .int 0])), (b + (k + 1), cS cA b ad Z0 (k + 1))] := hD
  refine va_putF (ci := 4) (C := rR4) (T := rT4) (N := 2) (ty := .array (.long)) hx hb hts in_c8 ry4 ft_c8 fn_c8 hown hC.1 hP hD hS 0 rfl rfl 0 (by decide) (hts _ t_78) (fun _ h9 => h9) rfl hnm rfl (by decide +kernel) rfl rfl (Nat.le_of_ble_eq_true rfl) d_icNames_8 (fun H locs hP hD hS => ?_)
  have hP : va_P D kCl [(b + k, .inr (4, [.ref (b + (k + 1)), .int 0])), (b + (k + 1), cS cA b ad Z0 (k + 1))] H := hP
  have hD : va_D (Ab (b + k)) [(b + k, .inr (4, [.ref (b + (k + 1)), .int 0])), (b + (k + 1), cS cA b ad Z0 (k + 1))] := hD
  refine kr_size (b := b) (n := (k + 2)) (by omega) (show b + (k + 1) + 1 ≤ H.size from (hP 1 _ rfl).lt) (fun hz => ?_)
  have e0 : (b + k, cS cA b ad Z0 k) = (b + k, .inr (4, [.ref (b + (k + 1)), .int 0])) := congrArg (Prod.mk (b + k)) (oz_8 hk)
  rw [← e0] at hP
  have hP : va_P D kCl (wI cA b ad (List.range' k 2)) H := hP
  exact kr_ret hQ hx hb hr hP hS (by omega) (by decide) (by show 0 + _ ≤ 12; omega) hlk d_icNames_11
abbrev y_icEntry : MethodName := ({ cls := "TypeGuard$Entry", name := "<init>", desc := "()V" } : Jvm.MethodName)
theorem d_icEntry_0 : decode prog_3_method_1_code 0 = .ok (.aload_n 0, 1) := by decide +kernel
theorem d_icEntry_1 : decode prog_3_method_1_code 1 = .ok (.invokespecial 3, 3) := by decide +kernel
theorem d_icEntry_4 : decode prog_3_method_1_code 4 = .ok (.aload_n 0, 1) := by decide +kernel
theorem d_icEntry_5 : decode prog_3_method_1_code 5 = .ok (.iconst (-1), 1) := by decide +kernel
theorem d_icEntry_6 : decode prog_3_method_1_code 6 = .ok (.putfield 9, 3) := by decide +kernel
theorem d_icEntry_9 : decode prog_3_method_1_code 9 = .ok (.return_, 1) := by decide +kernel
set_option maxHeartbeats 8000000 in
set_option maxRecDepth 100000 in
theorem M_icEntry {l : Launch} {D : va_G} {cA : Nat → ClassId} {b : Nat} {ad : Nat → Nat} {k : Nat} (hk : kd k = 22) : Met l y_icEntry (Cond.code y_icEntry prog_3_method_1_code 1 none :: TW) { frames := 1, cells := 0, slots := 0, locals := 20 } (va_Pc [.ref (b + k)] (Kp D cA b ad k (.inr (7, [.int 0, .int 0, .int 0, .int 0, .int 0, .int 0, .int 0, .int 0])))) (Kq D cA b ad k 1) 0 0 (Ab (b + k)) := by
  refine Ct_ofK (by decide) rfl (Nat.le_of_ble_eq_true rfl) ?_
  intro p e R s m args below meth c ls Q H hR hQ hx hb hts hown hml hr hlk hnm hC hA hs0 hP hD hS hz hl
  have hRf : R.frames = 1 := by rw [hR]
  have hRl : R.locals = 20 := by rw [hR]
  have hown : s.vm.findClass "TypeGuard$Entry" = some m.cls := hown
  have hl : lv_has ls 1 [(0, .ref (b + k))] := hl
  refine lv_aload_n hx hb d_icEntry_0 rfl (lv_at hl 0 rfl) ?_
  refine W.objInit hx hb hown (hts _ t_262) (hts _ t_33) (hts _ t_34) rfl (hl.1.trans hml.symm) rfl d_icEntry_1 (by rw [hRf]; decide) (by rw [hRl]; exact Nat.le_of_ble_eq_true rfl) ?_
  show W p l e R s m args below meth c H [] 0 0 Q (F0 m 4 ls [])
  refine lv_aload_n hx hb d_icEntry_4 rfl (lv_at hl 0 rfl) ?_
  refine lv_iconst (v := (-1)) hx hb d_icEntry_5 (by decide) ?_
  refine va_put (ci := 7) (C := rR7) (T := rT7) (N := 8) (ty := .int) hx hb hts in_c22 ry7 ft_c22 fn_c22 hown hC.1 hP hD hS 0 rfl rfl 3 (by decide) (hts _ t_269) (fun _ h9 => h9) rfl (by decide +kernel) rfl rfl (Nat.le_of_ble_eq_true rfl) d_icEntry_6 (fun H locs hP hD hS => ?_)
  have hP : va_P D kCl [(b + k, .inr (7, [.int 0, .int 0, .int 0, .int (-1), .int 0, .int 0, .int 0, .int 0]))] H := hP
  have hD : va_D (Ab (b + k)) [(b + k, .inr (7, [.int 0, .int 0, .int 0, .int (-1), .int 0, .int 0, .int 0, .int 0]))] := hD
  refine kr_size (b := b) (n := (k + 1)) (by omega) (show b + k + 1 ≤ H.size from (hP 0 _ rfl).lt) (fun hz => ?_)
  have e0 : (b + k, cS cA b ad Z0 k) = (b + k, .inr (7, [.int 0, .int 0, .int 0, .int (-1), .int 0, .int 0, .int 0, .int 0])) := congrArg (Prod.mk (b + k)) (oz_22 hk)
  rw [← e0] at hP
  have hP : va_P D kCl (wI cA b ad (List.range' k 1)) H := hP
  exact kr_ret hQ hx hb hr hP hS (by omega) (by decide) (by decide) hlk d_icEntry_9
