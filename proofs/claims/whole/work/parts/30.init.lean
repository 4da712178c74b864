theorem t_11 : (Jvm.Cond.initialized "TypeGuard$Entry") ∈ TW := List.mem_filter.mpr ⟨List.mem_append_right _ (List.mem_append_left _ (List.mem_of_getElem? (i := 11) rfl)), rfl⟩
theorem t_32 : (Jvm.Cond.methodLink "TypeGuard" (1 : Nat) ({ cls := "java/lang/Object", name := "<init>", desc := "()V" } : Jvm.MethodName)) ∈ TW := List.mem_filter.mpr ⟨List.mem_append_right _ (List.mem_append_left _ (List.mem_of_getElem? (i := 32) rfl)), rfl⟩
theorem t_33 : (Jvm.Cond.instanceMethod ({ cls := "java/lang/Object", name := "<init>", desc := "()V" } : Jvm.MethodName)) ∈ TW := List.mem_filter.mpr ⟨List.mem_append_right _ (List.mem_append_left _ (List.mem_of_getElem? (i := 33) rfl)), rfl⟩
theorem t_34 : (Jvm.Cond.code ({ cls := "java/lang/Object", name := "<init>", desc := "()V" } : Jvm.MethodName) object_method_1_code (1 : Nat) (Option.none : Option Jvm.ClassFile.FieldType)) ∈ TW := List.mem_filter.mpr ⟨List.mem_append_right _ (List.mem_append_left _ (List.mem_of_getElem? (i := 34) rfl)), rfl⟩
theorem t_35 : (Jvm.Cond.classLink "TypeGuard" (13 : Nat) "TypeGuard$Reader") ∈ TW := List.mem_filter.mpr ⟨List.mem_append_right _ (List.mem_append_left _ (List.mem_of_getElem? (i := 35) rfl)), rfl⟩
theorem t_36 : (Jvm.Cond.instantiable "TypeGuard$Reader" (6 : Nat)) ∈ TW := List.mem_filter.mpr ⟨List.mem_append_right _ (List.mem_append_left _ (List.mem_of_getElem? (i := 36) rfl)), rfl⟩
theorem t_37 : (Jvm.Cond.methodLinkNest "TypeGuard" (15 : Nat) ({ cls := "TypeGuard$Reader", name := "<init>", desc := "()V" } : Jvm.MethodName) "TypeGuard") ∈ NW := List.mem_filter.mpr ⟨List.mem_append_right _ (List.mem_append_left _ (List.mem_of_getElem? (i := 37) rfl)), rfl⟩
theorem t_38 : (Jvm.Cond.instanceMethod ({ cls := "TypeGuard$Reader", name := "<init>", desc := "()V" } : Jvm.MethodName)) ∈ TW := List.mem_filter.mpr ⟨List.mem_append_right _ (List.mem_append_left _ (List.mem_of_getElem? (i := 38) rfl)), rfl⟩
theorem t_39 : (Jvm.Cond.code ({ cls := "TypeGuard$Reader", name := "<init>", desc := "()V" } : Jvm.MethodName) prog_7_method_1_code (1 : Nat) (Option.none : Option Jvm.ClassFile.FieldType)) ∈ TW := List.mem_filter.mpr ⟨List.mem_append_right _ (List.mem_append_left _ (List.mem_of_getElem? (i := 39) rfl)), rfl⟩
theorem t_40 : (Jvm.Cond.methodLink "TypeGuard$Reader" (3 : Nat) ({ cls := "java/lang/Object", name := "<init>", desc := "()V" } : Jvm.MethodName)) ∈ TW := List.mem_filter.mpr ⟨List.mem_append_right _ (List.mem_append_left _ (List.mem_of_getElem? (i := 40) rfl)), rfl⟩
theorem t_41 : (Jvm.Cond.classLink "TypeGuard$Reader" (9 : Nat) "TypeGuard$Tokens") ∈ TW := List.mem_filter.mpr ⟨List.mem_append_right _ (List.mem_append_left _ (List.mem_of_getElem? (i := 41) rfl)), rfl⟩
theorem t_42 : (Jvm.Cond.instantiable "TypeGuard$Tokens" (5 : Nat)) ∈ TW := List.mem_filter.mpr ⟨List.mem_append_right _ (List.mem_append_left _ (List.mem_of_getElem? (i := 42) rfl)), rfl⟩
theorem t_43 : (Jvm.Cond.methodLinkNest "TypeGuard$Reader" (11 : Nat) ({ cls := "TypeGuard$Tokens", name := "<init>", desc := "()V" } : Jvm.MethodName) "TypeGuard") ∈ NW := List.mem_filter.mpr ⟨List.mem_append_right _ (List.mem_append_left _ (List.mem_of_getElem? (i := 43) rfl)), rfl⟩
theorem t_44 : (Jvm.Cond.instanceMethod ({ cls := "TypeGuard$Tokens", name := "<init>", desc := "()V" } : Jvm.MethodName)) ∈ TW := List.mem_filter.mpr ⟨List.mem_append_right _ (List.mem_append_left _ (List.mem_of_getElem? (i := 44) rfl)), rfl⟩
theorem t_45 : (Jvm.Cond.code ({ cls := "TypeGuard$Tokens", name := "<init>", desc := "()V" } : Jvm.MethodName) prog_9_method_1_code (1 : Nat) (Option.none : Option Jvm.ClassFile.FieldType)) ∈ TW := List.mem_filter.mpr ⟨List.mem_append_right _ (List.mem_append_left _ (List.mem_of_getElem? (i := 45) rfl)), rfl⟩
theorem t_46 : (Jvm.Cond.methodLink "TypeGuard$Tokens" (3 : Nat) ({ cls := "java/lang/Object", name := "<init>", desc := "()V" } : Jvm.MethodName)) ∈ TW := List.mem_filter.mpr ⟨List.mem_append_right _ (List.mem_append_left _ (List.mem_of_getElem? (i := 46) rfl)), rfl⟩
theorem t_63 : (Jvm.Cond.arrayClass Jvm.ClassFile.FieldType.char) ∈ TW := List.mem_filter.mpr ⟨List.mem_append_right _ (List.mem_append_left _ (List.mem_of_getElem? (i := 63) rfl)), rfl⟩
theorem t_64 : (Jvm.Cond.arrayClass Jvm.ClassFile.FieldType.int) ∈ TW := List.mem_filter.mpr ⟨List.mem_append_right _ (List.mem_append_left _ (List.mem_of_getElem? (i := 64) rfl)), rfl⟩
theorem t_65 : (Jvm.Cond.arrayClass Jvm.ClassFile.FieldType.long) ∈ TW := List.mem_filter.mpr ⟨List.mem_append_right _ (List.mem_append_left _ (List.mem_of_getElem? (i := 65) rfl)), rfl⟩
theorem t_66 : (Jvm.Cond.classLink "TypeGuard$Reader" (18 : Nat) "TypeGuard$Policy") ∈ TW := List.mem_filter.mpr ⟨List.mem_append_right _ (List.mem_append_left _ (List.mem_of_getElem? (i := 66) rfl)), rfl⟩
theorem t_67 : (Jvm.Cond.instantiable "TypeGuard$Policy" (9 : Nat)) ∈ TW := List.mem_filter.mpr ⟨List.mem_append_right _ (List.mem_append_left _ (List.mem_of_getElem? (i := 67) rfl)), rfl⟩
theorem t_68 : (Jvm.Cond.methodLink "TypeGuard$Reader" (20 : Nat) ({ cls := "TypeGuard$Policy", name := "<init>", desc := "()V" } : Jvm.MethodName)) ∈ TW := List.mem_filter.mpr ⟨List.mem_append_right _ (List.mem_append_left _ (List.mem_of_getElem? (i := 68) rfl)), rfl⟩
theorem t_69 : (Jvm.Cond.instanceMethod ({ cls := "TypeGuard$Policy", name := "<init>", desc := "()V" } : Jvm.MethodName)) ∈ TW := List.mem_filter.mpr ⟨List.mem_append_right _ (List.mem_append_left _ (List.mem_of_getElem? (i := 69) rfl)), rfl⟩
theorem t_70 : (Jvm.Cond.code ({ cls := "TypeGuard$Policy", name := "<init>", desc := "()V" } : Jvm.MethodName) prog_6_method_1_code (2 : Nat) (Option.none : Option Jvm.ClassFile.FieldType)) ∈ TW := List.mem_filter.mpr ⟨List.mem_append_right _ (List.mem_append_left _ (List.mem_of_getElem? (i := 70) rfl)), rfl⟩
theorem t_71 : (Jvm.Cond.methodLink "TypeGuard$Policy" (3 : Nat) ({ cls := "java/lang/Object", name := "<init>", desc := "()V" } : Jvm.MethodName)) ∈ TW := List.mem_filter.mpr ⟨List.mem_append_right _ (List.mem_append_left _ (List.mem_of_getElem? (i := 71) rfl)), rfl⟩
theorem t_72 : (Jvm.Cond.classLink "TypeGuard$Policy" (9 : Nat) "TypeGuard$Names") ∈ TW := List.mem_filter.mpr ⟨List.mem_append_right _ (List.mem_append_left _ (List.mem_of_getElem? (i := 72) rfl)), rfl⟩
theorem t_73 : (Jvm.Cond.instantiable "TypeGuard$Names" (2 : Nat)) ∈ TW := List.mem_filter.mpr ⟨List.mem_append_right _ (List.mem_append_left _ (List.mem_of_getElem? (i := 73) rfl)), rfl⟩
theorem t_74 : (Jvm.Cond.methodLink "TypeGuard$Policy" (11 : Nat) ({ cls := "TypeGuard$Names", name := "<init>", desc := "(I)V" } : Jvm.MethodName)) ∈ TW := List.mem_filter.mpr ⟨List.mem_append_right _ (List.mem_append_left _ (List.mem_of_getElem? (i := 74) rfl)), rfl⟩
theorem t_75 : (Jvm.Cond.instanceMethod ({ cls := "TypeGuard$Names", name := "<init>", desc := "(I)V" } : Jvm.MethodName)) ∈ TW := List.mem_filter.mpr ⟨List.mem_append_right _ (List.mem_append_left _ (List.mem_of_getElem? (i := 75) rfl)), rfl⟩
theorem t_76 : (Jvm.Cond.code ({ cls := "TypeGuard$Names", name := "<init>", desc := "(I)V" } : Jvm.MethodName) prog_4_method_1_code (2 : Nat) (Option.none : Option Jvm.ClassFile.FieldType)) ∈ TW := List.mem_filter.mpr ⟨List.mem_append_right _ (List.mem_append_left _ (List.mem_of_getElem? (i := 76) rfl)), rfl⟩
theorem t_77 : (Jvm.Cond.methodLink "TypeGuard$Names" (3 : Nat) ({ cls := "java/lang/Object", name := "<init>", desc := "()V" } : Jvm.MethodName)) ∈ TW := List.mem_filter.mpr ⟨List.mem_append_right _ (List.mem_append_left _ (List.mem_of_getElem? (i := 77) rfl)), rfl⟩
theorem t_89 : (Jvm.Cond.classLink "TypeGuard$Policy" (41 : Nat) "TypeGuard$Rule") ∈ TW := List.mem_filter.mpr ⟨List.mem_append_right _ (List.mem_append_left _ (List.mem_of_getElem? (i := 89) rfl)), rfl⟩
theorem t_91 : (Jvm.Cond.instantiable "TypeGuard$Rule" (12 : Nat)) ∈ TW := List.mem_filter.mpr ⟨List.mem_append_right _ (List.mem_append_left _ (List.mem_of_getElem? (i := 91) rfl)), rfl⟩
theorem t_92 : (Jvm.Cond.methodLinkNest "TypeGuard$Policy" (47 : Nat) ({ cls := "TypeGuard$Rule", name := "<init>", desc := "()V" } : Jvm.MethodName) "TypeGuard") ∈ NW := List.mem_filter.mpr ⟨List.mem_append_right _ (List.mem_append_left _ (List.mem_of_getElem? (i := 92) rfl)), rfl⟩
theorem t_93 : (Jvm.Cond.instanceMethod ({ cls := "TypeGuard$Rule", name := "<init>", desc := "()V" } : Jvm.MethodName)) ∈ TW := List.mem_filter.mpr ⟨List.mem_append_right _ (List.mem_append_left _ (List.mem_of_getElem? (i := 93) rfl)), rfl⟩
theorem t_94 : (Jvm.Cond.code ({ cls := "TypeGuard$Rule", name := "<init>", desc := "()V" } : Jvm.MethodName) prog_8_method_1_code (1 : Nat) (Option.none : Option Jvm.ClassFile.FieldType)) ∈ TW := List.mem_filter.mpr ⟨List.mem_append_right _ (List.mem_append_left _ (List.mem_of_getElem? (i := 94) rfl)), rfl⟩
theorem t_95 : (Jvm.Cond.methodLink "TypeGuard$Rule" (3 : Nat) ({ cls := "java/lang/Object", name := "<init>", desc := "()V" } : Jvm.MethodName)) ∈ TW := List.mem_filter.mpr ⟨List.mem_append_right _ (List.mem_append_left _ (List.mem_of_getElem? (i := 95) rfl)), rfl⟩
theorem t_96 : (Jvm.Cond.fieldLink "TypeGuard$Rule" (9 : Nat) "TypeGuard$Word" "OTHER" "LTypeGuard$Word;") ∈ TW := List.mem_filter.mpr ⟨List.mem_append_right _ (List.mem_append_left _ (List.mem_of_getElem? (i := 96) rfl)), rfl⟩
theorem t_98 : (Jvm.Cond.classLink "TypeGuard$Rule" (24 : Nat) "TypeGuard$TypeSet") ∈ TW := List.mem_filter.mpr ⟨List.mem_append_right _ (List.mem_append_left _ (List.mem_of_getElem? (i := 98) rfl)), rfl⟩
theorem t_99 : (Jvm.Cond.instantiable "TypeGuard$TypeSet" (6 : Nat)) ∈ TW := List.mem_filter.mpr ⟨List.mem_append_right _ (List.mem_append_left _ (List.mem_of_getElem? (i := 99) rfl)), rfl⟩
theorem t_100 : (Jvm.Cond.methodLinkNest "TypeGuard$Rule" (26 : Nat) ({ cls := "TypeGuard$TypeSet", name := "<init>", desc := "()V" } : Jvm.MethodName) "TypeGuard") ∈ NW := List.mem_filter.mpr ⟨List.mem_append_right _ (List.mem_append_left _ (List.mem_of_getElem? (i := 100) rfl)), rfl⟩
theorem t_101 : (Jvm.Cond.instanceMethod ({ cls := "TypeGuard$TypeSet", name := "<init>", desc := "()V" } : Jvm.MethodName)) ∈ TW := List.mem_filter.mpr ⟨List.mem_append_right _ (List.mem_append_left _ (List.mem_of_getElem? (i := 101) rfl)), rfl⟩
theorem t_102 : (Jvm.Cond.code ({ cls := "TypeGuard$TypeSet", name := "<init>", desc := "()V" } : Jvm.MethodName) prog_10_method_1_code (1 : Nat) (Option.none : Option Jvm.ClassFile.FieldType)) ∈ TW := List.mem_filter.mpr ⟨List.mem_append_right _ (List.mem_append_left _ (List.mem_of_getElem? (i := 102) rfl)), rfl⟩
theorem t_103 : (Jvm.Cond.methodLink "TypeGuard$TypeSet" (1 : Nat) ({ cls := "java/lang/Object", name := "<init>", desc := "()V" } : Jvm.MethodName)) ∈ TW := List.mem_filter.mpr ⟨List.mem_append_right _ (List.mem_append_left _ (List.mem_of_getElem? (i := 103) rfl)), rfl⟩
theorem t_129 : (Jvm.Cond.arrayClass Jvm.ClassFile.FieldType.boolean) ∈ TW := List.mem_filter.mpr ⟨List.mem_append_right _ (List.mem_append_left _ (List.mem_of_getElem? (i := 129) rfl)), rfl⟩
theorem t_157 : (Jvm.Cond.fieldLink "TypeGuard$Rule" (38 : Nat) "TypeGuard$Rule" "movedTo" "I") ∈ TW := List.mem_filter.mpr ⟨List.mem_append_right _ (List.mem_append_left _ (List.mem_of_getElem? (i := 157) rfl)), rfl⟩
theorem t_248 : (Jvm.Cond.classLink "TypeGuard" (20 : Nat) "TypeGuard$Policy") ∈ TW := List.mem_filter.mpr ⟨List.mem_append_right _ (List.mem_append_right _ (List.mem_append_left _ (List.mem_of_getElem? (i := 8) rfl))), rfl⟩
theorem t_249 : (Jvm.Cond.methodLink "TypeGuard" (22 : Nat) ({ cls := "TypeGuard$Policy", name := "<init>", desc := "()V" } : Jvm.MethodName)) ∈ TW := List.mem_filter.mpr ⟨List.mem_append_right _ (List.mem_append_right _ (List.mem_append_left _ (List.mem_of_getElem? (i := 9) rfl))), rfl⟩
theorem t_250 : (Jvm.Cond.classLink "TypeGuard" (37 : Nat) "TypeGuard$VectorCache") ∈ TW := List.mem_filter.mpr ⟨List.mem_append_right _ (List.mem_append_right _ (List.mem_append_left _ (List.mem_of_getElem? (i := 10) rfl))), rfl⟩
theorem t_251 : (Jvm.Cond.instantiable "TypeGuard$VectorCache" (5 : Nat)) ∈ TW := List.mem_filter.mpr ⟨List.mem_append_right _ (List.mem_append_right _ (List.mem_append_left _ (List.mem_of_getElem? (i := 11) rfl))), rfl⟩
theorem t_252 : (Jvm.Cond.methodLink "TypeGuard" (39 : Nat) ({ cls := "TypeGuard$VectorCache", name := "<init>", desc := "()V" } : Jvm.MethodName)) ∈ TW := List.mem_filter.mpr ⟨List.mem_append_right _ (List.mem_append_right _ (List.mem_append_left _ (List.mem_of_getElem? (i := 12) rfl))), rfl⟩
theorem t_253 : (Jvm.Cond.instanceMethod ({ cls := "TypeGuard$VectorCache", name := "<init>", desc := "()V" } : Jvm.MethodName)) ∈ TW := List.mem_filter.mpr ⟨List.mem_append_right _ (List.mem_append_right _ (List.mem_append_left _ (List.mem_of_getElem? (i := 13) rfl))), rfl⟩
theorem t_254 : (Jvm.Cond.code ({ cls := "TypeGuard$VectorCache", name := "<init>", desc := "()V" } : Jvm.MethodName) prog_11_method_1_code (2 : Nat) (Option.none : Option Jvm.ClassFile.FieldType)) ∈ TW := List.mem_filter.mpr ⟨List.mem_append_right _ (List.mem_append_right _ (List.mem_append_left _ (List.mem_of_getElem? (i := 14) rfl))), rfl⟩
theorem t_255 : (Jvm.Cond.methodLink "TypeGuard$VectorCache" (3 : Nat) ({ cls := "java/lang/Object", name := "<init>", desc := "()V" } : Jvm.MethodName)) ∈ TW := List.mem_filter.mpr ⟨List.mem_append_right _ (List.mem_append_right _ (List.mem_append_left _ (List.mem_of_getElem? (i := 15) rfl))), rfl⟩
theorem t_256 : (Jvm.Cond.classLink "TypeGuard$VectorCache" (9 : Nat) "TypeGuard$Entry") ∈ TW := List.mem_filter.mpr ⟨List.mem_append_right _ (List.mem_append_right _ (List.mem_append_left _ (List.mem_of_getElem? (i := 16) rfl))), rfl⟩
theorem t_258 : (Jvm.Cond.instantiable "TypeGuard$Entry" (8 : Nat)) ∈ TW := List.mem_filter.mpr ⟨List.mem_append_right _ (List.mem_append_right _ (List.mem_append_left _ (List.mem_of_getElem? (i := 18) rfl))), rfl⟩
theorem t_259 : (Jvm.Cond.methodLinkNest "TypeGuard$VectorCache" (17 : Nat) ({ cls := "TypeGuard$Entry", name := "<init>", desc := "()V" } : Jvm.MethodName) "TypeGuard") ∈ NW := List.mem_filter.mpr ⟨List.mem_append_right _ (List.mem_append_right _ (List.mem_append_left _ (List.mem_of_getElem? (i := 19) rfl))), rfl⟩
theorem t_260 : (Jvm.Cond.instanceMethod ({ cls := "TypeGuard$Entry", name := "<init>", desc := "()V" } : Jvm.MethodName)) ∈ TW := List.mem_filter.mpr ⟨List.mem_append_right _ (List.mem_append_right _ (List.mem_append_left _ (List.mem_of_getElem? (i := 20) rfl))), rfl⟩
theorem t_261 : (Jvm.Cond.code ({ cls := "TypeGuard$Entry", name := "<init>", desc := "()V" } : Jvm.MethodName) prog_3_method_1_code (1 : Nat) (Option.none : Option Jvm.ClassFile.FieldType)) ∈ TW := List.mem_filter.mpr ⟨List.mem_append_right _ (List.mem_append_right _ (List.mem_append_left _ (List.mem_of_getElem? (i := 21) rfl))), rfl⟩
theorem t_262 : (Jvm.Cond.methodLink "TypeGuard$Entry" (3 : Nat) ({ cls := "java/lang/Object", name := "<init>", desc := "()V" } : Jvm.MethodName)) ∈ TW := List.mem_filter.mpr ⟨List.mem_append_right _ (List.mem_append_right _ (List.mem_append_left _ (List.mem_of_getElem? (i := 22) rfl))), rfl⟩
theorem t_269 : (Jvm.Cond.fieldLink "TypeGuard$Entry" (9 : Nat) "TypeGuard$Entry" "sequence" "I") ∈ TW := List.mem_filter.mpr ⟨List.mem_append_right _ (List.mem_append_right _ (List.mem_append_left _ (List.mem_of_getElem? (i := 29) rfl))), rfl⟩
theorem t_312 : (Jvm.Cond.classLink "TypeGuard" (44 : Nat) "TypeGuard$NoteLog") ∈ TW := List.mem_filter.mpr ⟨List.mem_append_right _ (List.mem_append_right _ (List.mem_append_left _ (List.mem_of_getElem? (i := 72) rfl))), rfl⟩
theorem t_313 : (Jvm.Cond.instantiable "TypeGuard$NoteLog" (2 : Nat)) ∈ TW := List.mem_filter.mpr ⟨List.mem_append_right _ (List.mem_append_right _ (List.mem_append_left _ (List.mem_of_getElem? (i := 73) rfl))), rfl⟩
theorem t_314 : (Jvm.Cond.methodLinkNest "TypeGuard" (46 : Nat) ({ cls := "TypeGuard$NoteLog", name := "<init>", desc := "()V" } : Jvm.MethodName) "TypeGuard") ∈ NW := List.mem_filter.mpr ⟨List.mem_append_right _ (List.mem_append_right _ (List.mem_append_left _ (List.mem_of_getElem? (i := 74) rfl))), rfl⟩
theorem t_315 : (Jvm.Cond.instanceMethod ({ cls := "TypeGuard$NoteLog", name := "<init>", desc := "()V" } : Jvm.MethodName)) ∈ TW := List.mem_filter.mpr ⟨List.mem_append_right _ (List.mem_append_right _ (List.mem_append_left _ (List.mem_of_getElem? (i := 75) rfl))), rfl⟩
theorem t_316 : (Jvm.Cond.code ({ cls := "TypeGuard$NoteLog", name := "<init>", desc := "()V" } : Jvm.MethodName) prog_5_method_1_code (1 : Nat) (Option.none : Option Jvm.ClassFile.FieldType)) ∈ TW := List.mem_filter.mpr ⟨List.mem_append_right _ (List.mem_append_right _ (List.mem_append_left _ (List.mem_of_getElem? (i := 76) rfl))), rfl⟩
theorem t_317 : (Jvm.Cond.methodLink "TypeGuard$NoteLog" (3 : Nat) ({ cls := "java/lang/Object", name := "<init>", desc := "()V" } : Jvm.MethodName)) ∈ TW := List.mem_filter.mpr ⟨List.mem_append_right _ (List.mem_append_right _ (List.mem_append_left _ (List.mem_of_getElem? (i := 77) rfl))), rfl⟩
theorem t_318 : (Jvm.Cond.classLink "TypeGuard$NoteLog" (9 : Nat) "[[I") ∈ TW := List.mem_filter.mpr ⟨List.mem_append_right _ (List.mem_append_right _ (List.mem_append_left _ (List.mem_of_getElem? (i := 78) rfl))), rfl⟩
theorem t_986 : (Jvm.Cond.methodLink "TypeGuardModel" (1 : Nat) ({ cls := "java/lang/Object", name := "<init>", desc := "()V" } : Jvm.MethodName)) ∈ TW := List.mem_filter.mpr ⟨List.mem_append_right _ (List.mem_append_right _ (List.mem_append_right _ (List.mem_append_right _ (List.mem_append_right _ (List.mem_append_left _ (List.mem_of_getElem? (i := 26) rfl)))))), rfl⟩
section CT2
variable {H : Heap} {D : va_G} {cA : Nat → ClassId} {b : Nat} {ad : Nat → Nat}
theorem ar_at {c : ClassId} {N : Nat} {f g : Nat → Option Nat} (h : ∀ j, j < N → f j = g j) : vp_cell c (N, .inr (.inr (.inr (.inr f)))) = vp_cell c (N, .inr (.inr (.inr (.inr g)))) := by
  rw [vp_cell_q, vp_cell_q]
  unfold arrV
  congr 2
  funext j
  rw [h j.val j.isLt]
theorem P_swap {ws : va_W} {q a : Nat} {E E' : va_E} (h : va_P D kCl ws H) (hq : ws[q]? = some (a, E)) (he : va_at D kCl (a, E) H → va_at D kCl (a, E') H) : va_P D kCl (ws.set q (a, E')) H := by
  intro i x hx
  have hl := (List.getElem?_eq_some_iff.mp hq).1
  by_cases hi : i = q
  · subst hi
    rw [List.getElem?_set_self hl] at hx
    cases hx
    exact he (h _ _ hq)
  · rw [List.getElem?_set_ne (Ne.symm hi)] at hx
    exact h i x hx
theorem P_arr {a : Nat} {E : va_E} {c : ClassId} {N : Nat} {f g : Nat → Option Nat} (hE : E = .inl (c, N, .inr (.inr (.inr (.inr g))))) (hfg : ∀ j, j < N → f j = g j) (h : va_at D kCl (a, .inl (c, N, .inr (.inr (.inr (.inr f))))) H) : va_at D kCl (a, E) H := by
  rw [hE]
  show H[a]? = some (vp_cell _ _)
  rw [← ar_at hfg]
  exact h
theorem az_10 {k : Nat} (h : kd k = 10) : cS cA b ad Z0 k = .inl (cA 4, 4, .inr (.inr (.inr (.inr (fun j => some (b + (k + (4 + 2 * j)))))))) := by
  show cS cA b ad (C0, M0, fun _ => 0) k = _
  rw [cS_c (kd_lt h (by decide))]
  simp only [cC, h]
theorem az_13 {k : Nat} (h : kd k = 13) : cS cA b ad Z0 k = .inl (cA 5, 24, .inr (.inr (.inr (.inr (fun j => some (b + (k + (9 + 4 * j)))))))) := by
  show cS cA b ad (C0, M0, fun _ => 0) k = _
  rw [cS_c (kd_lt h (by decide))]
  simp only [cC, h]
theorem az_21 {k : Nat} (h : kd k = 21) : cS cA b ad Z0 k = .inl (cA 6, 6, .inr (.inr (.inr (.inr (fun j => some (b + (k + (1 + j)))))))) := by
  show cS cA b ad (C0, M0, fun _ => 0) k = _
  rw [cS_c (kd_lt h (by decide))]
  simp only [cC, h]
theorem P_all {a a' m sz : Nat} (h : va_P D kCl (wI cA b ad (List.range' a m) ++ wI cA b ad (List.range' a' sz)) H) (ha : a' = a + m) : va_P D kCl (wI cA b ad (List.range' a (m + sz))) H := by
  have h1 := P_cat (X := []) (a := a) (m := m) (a' := a') (sz := sz) (by rw [List.nil_append]; exact h) ha
  rw [List.nil_append] at h1
  exact h1
end CT2
abbrev y_icTypeSet : MethodName := ({ cls := "TypeGuard$TypeSet", name := "<init>", desc := "()V" } : Jvm.MethodName)
theorem d_icTypeSet_0 : decode prog_10_method_1_code 0 = .ok (.aload_n 0, 1) := by decide +kernel
theorem d_icTypeSet_1 : decode prog_10_method_1_code 1 = .ok (.invokespecial 1, 3) := by decide +kernel
theorem d_icTypeSet_4 : decode prog_10_method_1_code 4 = .ok (.return_, 1) := by decide +kernel
set_option maxHeartbeats 8000000 in
set_option maxRecDepth 100000 in
theorem M_icTypeSet {l : Launch} {D : va_G} {cA : Nat → ClassId} {b : Nat} {ad : Nat → Nat} {k : Nat} (hk : kd k = 15) : Met l y_icTypeSet (Cond.code y_icTypeSet prog_10_method_1_code 1 none :: TW) { frames := 1, cells := 0, slots := 0, locals := 20 } (va_Pc [.ref (b + k)] (Kp D cA b ad k (.inr (6, [.int 0, .int 0, .int 0, .int 0, .int 0, .int 0])))) (Kq D cA b ad k 1) 0 0 (Ab (b + k)) := by
  refine Ct_ofK (by decide) rfl (Nat.le_of_ble_eq_true rfl) ?_
  intro p e R s m args below meth c ls Q H hR hQ hx hb hts hown hml hr hlk hnm hC hA hs0 hP hD hS hz hl
  have hRf : R.frames = 1 := by rw [hR]
  have hRl : R.locals = 20 := by rw [hR]
  have hown : s.vm.findClass "TypeGuard$TypeSet" = some m.cls := hown
  have hl : lv_has ls 1 [(0, .ref (b + k))] := hl
  refine lv_aload_n hx hb d_icTypeSet_0 rfl (lv_at hl 0 rfl) ?_
  refine W.objInit hx hb hown (hts _ t_103) (hts _ t_33) (hts _ t_34) rfl (hl.1.trans hml.symm) rfl d_icTypeSet_1 (by rw [hRf]; decide) (by rw [hRl]; exact Nat.le_of_ble_eq_true rfl) ?_
  have e0 : (b + k, cS cA b ad Z0 k) = (b + k, .inr (6, [.int 0, .int 0, .int 0, .int 0, .int 0, .int 0])) := congrArg (Prod.mk (b + k)) (oz_15 hk)
  rw [← e0] at hP
  have hP : va_P D kCl (wI cA b ad (List.range' k 1)) H := hP
  exact kr_ret hQ hx hb hr hP hS (by omega) (by decide) (by decide) hlk d_icTypeSet_4
abbrev y_icNames : MethodName := ({ cls := "TypeGuard$Names", name := "<init>", desc := "(I)V" } : Jvm.MethodName)
theorem d_icNames_0 : decode prog_4_method_1_code 0 = .ok (.aload_n 0, 1) := by decide +kernel
theorem d_icNames_1 : decode prog_4_method_1_code 1 = .ok (.invokespecial 3, 3) := by decide +kernel
theorem d_icNames_4 : decode prog_4_method_1_code 4 = .ok (.aload_n 0, 1) := by decide +kernel
theorem d_icNames_5 : decode prog_4_method_1_code 5 = .ok (.iload_n 1, 1) := by decide +kernel
theorem d_icNames_6 : decode prog_4_method_1_code 6 = .ok (.newarray .long, 2) := by decide +kernel
theorem d_icNames_8 : decode prog_4_method_1_code 8 = .ok (.putfield 9, 3) := by decide +kernel
theorem d_icNames_11 : decode prog_4_method_1_code 11 = .ok (.return_, 1) := by decide +kernel
set_option maxHeartbeats 8000000 in
set_option maxRecDepth 100000 in
theorem M_icNames {l : Launch} {D : va_G} {cA : Nat → ClassId} {b : Nat} {ad : Nat → Nat} {k : Nat} (hk : kd k = 8) {x1 : Int32} (hc0 : ¬ x1 < 0) (hc1 : x1.toNatClampNeg = ln (k + 1)) (hc2 : ln (k + 1) ≤ 12) : Met l y_icNames (Cond.code y_icNames prog_4_method_1_code 2 none :: TW) { frames := 1, cells := 1, slots := 12, locals := 20 } (va_Pc [.ref (b + k), .int x1] (Kp D cA b ad k (.inr (4, [.null, .int 0])))) (Kq D cA b ad k 2) 1 12 (Ab (b + k)) := by
  refine Ct_ofK (by decide) rfl (Nat.le_of_ble_eq_true rfl) ?_
  intro p e R s m args below meth c ls Q H hR hQ hx hb hts hown hml hr hlk hnm hC hA hs0 hP hD hS hz hl
  have hRf : R.frames = 1 := by rw [hR]
  have hRl : R.locals = 20 := by rw [hR]
  have hown : s.vm.findClass "TypeGuard$Names" = some m.cls := hown
  have hl : lv_has ls 2 [(0, .ref (b + k)), (1, .int x1)] := hl
  refine lv_aload_n hx hb d_icNames_0 rfl (lv_at hl 0 rfl) ?_
  refine W.objInit hx hb hown (hts _ t_77) (hts _ t_33) (hts _ t_34) rfl (hl.1.trans hml.symm) rfl d_icNames_1 (by rw [hRf]; decide) (by rw [hRl]; exact Nat.le_of_ble_eq_true rfl) ?_
  refine lv_aload_n hx hb d_icNames_4 rfl (lv_at hl 0 rfl) ?_
  refine lv_iload_n hx hb d_icNames_5 rfl (lv_at hl 1 rfl) ?_
  refine kr_arr (n := (k + 1)) (t := 1) (N := (ln (k + 1))) hx hb hts t_65 rfl hP hD hS (by omega) hz (az_9 (kx_8_1 hk)) (hC.1.2 1 _ rfl).2 (fun _ => rfl) hc0 hc1 (by show ln (k + 1) * 8 ≤ _; omega) (by rw [hR]; exact Nat.le_of_ble_eq_true rfl) (by rw [hR]; show 0 + _ ≤ 12; omega) d_icNames_6 (fun H hP hD hS hz => ?_)
  have hP : va_P D kCl [(b + k, .inr (4, [.null, .int 0])), (b + (k + 1), cS cA b ad Z0 (k + 1))] H := hP
  have hD : va_D (Ab (b + k)) [(b + k, .inr (4, [.null, .int 0])), (b + (k + 1), cS cA b ad Z0 (k + 1))] := hD
  refine va_putF (ci := 4) (C := rR4) (T := rT4) (N := 2) (ty := .array (.long)) hx hb hts in_c8 ry4 ft_c8 fn_c8 hown hC.1 hP hD hS 0 rfl rfl 0 (by decide) (hts _ t_78) (fun _ h9 => h9) rfl hnm rfl (by decide +kernel) rfl rfl (Nat.le_of_ble_eq_true rfl) d_icNames_8 (fun H locs hP hD hS => ?_)
  have hP : va_P D kCl [(b + k, .inr (4, [.ref (b + (k + 1)), .int 0])), (b + (k + 1), cS cA b ad Z0 (k + 1))] H := hP
  have hD : va_D (Ab (b + k)) [(b + k, .inr (4, [.ref (b + (k + 1)), .int 0])), (b + (k + 1), cS cA b ad Z0 (k + 1))] := hD
  refine kr_size (n := (k + 2)) (by omega) (by have h : b + (k + 1) < H.size := (hP 1 _ rfl).lt; omega) (fun hz => ?_)
  have e0 : (b + k, cS cA b ad Z0 k) = (b + k, .inr (4, [.ref (b + (k + 1)), .int 0])) := congrArg (Prod.mk (b + k)) (oz_8 hk)
  rw [← e0] at hP
  have hP : va_P D kCl (wI cA b ad (List.range' k 2)) H := hP
  exact kr_ret hQ hx hb hr hP hS (by omega) (by decide) (by show 0 + _ ≤ 12; omega) hlk d_icNames_11
abbrev y_icEntry : MethodName := ({ cls := "TypeGuard$Entry", name := "<init>", desc := "()V" } : Jvm.MethodName)
theorem d_icEntry_0 : decode prog_3_method_1_code 0 = .ok (.aload_n 0, 1) := by decide +kernel
theorem d_icEntry_1 : decode prog_3_method_1_code 1 = .ok (.invokespecial 3, 3) := by decide +kernel
theorem d_icEntry_4 : decode prog_3_method_1_code 4 = .ok (.aload_n 0, 1) := by decide +kernel
theorem d_icEntry_5 : decode prog_3_method_1_code 5 = .ok (.iconst (-1), 1) := by decide +kernel
theorem d_icEntry_6 : decode prog_3_method_1_code 6 = .ok (.putfield 9, 3) := by decide +kernel
theorem d_icEntry_9 : decode prog_3_method_1_code 9 = .ok (.return_, 1) := by decide +kernel
set_option maxHeartbeats 8000000 in
set_option maxRecDepth 100000 in
theorem M_icEntry {l : Launch} {D : va_G} {cA : Nat → ClassId} {b : Nat} {ad : Nat → Nat} {k : Nat} (hk : kd k = 22) : Met l y_icEntry (Cond.code y_icEntry prog_3_method_1_code 1 none :: TW) { frames := 1, cells := 0, slots := 0, locals := 20 } (va_Pc [.ref (b + k)] (Kp D cA b ad k (.inr (7, [.int 0, .int 0, .int 0, .int 0, .int 0, .int 0, .int 0, .int 0])))) (Kq D cA b ad k 1) 0 0 (Ab (b + k)) := by
  refine Ct_ofK (by decide) rfl (Nat.le_of_ble_eq_true rfl) ?_
  intro p e R s m args below meth c ls Q H hR hQ hx hb hts hown hml hr hlk hnm hC hA hs0 hP hD hS hz hl
  have hRf : R.frames = 1 := by rw [hR]
  have hRl : R.locals = 20 := by rw [hR]
  have hown : s.vm.findClass "TypeGuard$Entry" = some m.cls := hown
  have hl : lv_has ls 1 [(0, .ref (b + k))] := hl
  refine lv_aload_n hx hb d_icEntry_0 rfl (lv_at hl 0 rfl) ?_
  refine W.objInit hx hb hown (hts _ t_262) (hts _ t_33) (hts _ t_34) rfl (hl.1.trans hml.symm) rfl d_icEntry_1 (by rw [hRf]; decide) (by rw [hRl]; exact Nat.le_of_ble_eq_true rfl) ?_
  refine lv_aload_n hx hb d_icEntry_4 rfl (lv_at hl 0 rfl) ?_
  refine lv_iconst (v := (-1)) hx hb d_icEntry_5 (by decide) ?_
  refine va_put (ci := 7) (C := rR7) (T := rT7) (N := 8) (ty := .int) hx hb hts in_c22 ry7 ft_c22 fn_c22 hown hC.1 hP hD hS 0 rfl rfl 3 (by decide) (hts _ t_269) (fun _ h9 => h9) rfl (by decide +kernel) rfl rfl (Nat.le_of_ble_eq_true rfl) d_icEntry_6 (fun H locs hP hD hS => ?_)
  have hP : va_P D kCl [(b + k, .inr (7, [.int 0, .int 0, .int 0, .int (-1), .int 0, .int 0, .int 0, .int 0]))] H := hP
  have hD : va_D (Ab (b + k)) [(b + k, .inr (7, [.int 0, .int 0, .int 0, .int (-1), .int 0, .int 0, .int 0, .int 0]))] := hD
  refine kr_size (n := (k + 1)) (by omega) (by have h : b + k < H.size := (hP 0 _ rfl).lt; omega) (fun hz => ?_)
  have e0 : (b + k, cS cA b ad Z0 k) = (b + k, .inr (7, [.int 0, .int 0, .int 0, .int (-1), .int 0, .int 0, .int 0, .int 0])) := congrArg (Prod.mk (b + k)) (oz_22 hk)
  rw [← e0] at hP
  have hP : va_P D kCl (wI cA b ad (List.range' k 1)) H := hP
  exact kr_ret hQ hx hb hr hP hS (by omega) (by decide) (by decide) hlk d_icEntry_9
abbrev y_icRule : MethodName := ({ cls := "TypeGuard$Rule", name := "<init>", desc := "()V" } : Jvm.MethodName)
theorem d_icRule_0 : decode prog_8_method_1_code 0 = .ok (.aload_n 0, 1) := by decide +kernel
theorem d_icRule_1 : decode prog_8_method_1_code 1 = .ok (.invokespecial 3, 3) := by decide +kernel
theorem d_icRule_4 : decode prog_8_method_1_code 4 = .ok (.aload_n 0, 1) := by decide +kernel
theorem d_icRule_5 : decode prog_8_method_1_code 5 = .ok (.getstatic 9, 3) := by decide +kernel
theorem d_icRule_8 : decode prog_8_method_1_code 8 = .ok (.putfield 15, 3) := by decide +kernel
theorem d_icRule_11 : decode prog_8_method_1_code 11 = .ok (.aload_n 0, 1) := by decide +kernel
theorem d_icRule_12 : decode prog_8_method_1_code 12 = .ok (.iconst (-1), 1) := by decide +kernel
theorem d_icRule_13 : decode prog_8_method_1_code 13 = .ok (.putfield 20, 3) := by decide +kernel
theorem d_icRule_16 : decode prog_8_method_1_code 16 = .ok (.aload_n 0, 1) := by decide +kernel
theorem d_icRule_17 : decode prog_8_method_1_code 17 = .ok (.new 24, 3) := by decide +kernel
theorem d_icRule_20 : decode prog_8_method_1_code 20 = .ok (.dup, 1) := by decide +kernel
theorem d_icRule_21 : decode prog_8_method_1_code 21 = .ok (.invokespecial 26, 3) := by decide +kernel
theorem d_icRule_24 : decode prog_8_method_1_code 24 = .ok (.putfield 27, 3) := by decide +kernel
theorem d_icRule_27 : decode prog_8_method_1_code 27 = .ok (.aload_n 0, 1) := by decide +kernel
theorem d_icRule_28 : decode prog_8_method_1_code 28 = .ok (.new 24, 3) := by decide +kernel
theorem d_icRule_31 : decode prog_8_method_1_code 31 = .ok (.dup, 1) := by decide +kernel
theorem d_icRule_32 : decode prog_8_method_1_code 32 = .ok (.invokespecial 26, 3) := by decide +kernel
theorem d_icRule_35 : decode prog_8_method_1_code 35 = .ok (.putfield 31, 3) := by decide +kernel
theorem d_icRule_38 : decode prog_8_method_1_code 38 = .ok (.aload_n 0, 1) := by decide +kernel
theorem d_icRule_39 : decode prog_8_method_1_code 39 = .ok (.iconst 4, 1) := by decide +kernel
theorem d_icRule_40 : decode prog_8_method_1_code 40 = .ok (.newarray .int, 2) := by decide +kernel
theorem d_icRule_42 : decode prog_8_method_1_code 42 = .ok (.putfield 34, 3) := by decide +kernel
theorem d_icRule_45 : decode prog_8_method_1_code 45 = .ok (.aload_n 0, 1) := by decide +kernel
theorem d_icRule_46 : decode prog_8_method_1_code 46 = .ok (.iconst (-1), 1) := by decide +kernel
theorem d_icRule_47 : decode prog_8_method_1_code 47 = .ok (.putfield 38, 3) := by decide +kernel
theorem d_icRule_50 : decode prog_8_method_1_code 50 = .ok (.return_, 1) := by decide +kernel
set_option maxHeartbeats 8000000 in
set_option maxRecDepth 100000 in
theorem M_icRule {l : Launch} {D : va_G} {cA : Nat → ClassId} {b : Nat} {ad : Nat → Nat} {k : Nat} (hk : kd k = 14) : Met l y_icRule (Cond.code y_icRule prog_8_method_1_code 1 none :: TW) { frames := 2, cells := 3, slots := 16, locals := 40 } (va_Pc [.ref (b + k)] (Kp D cA b ad k (.inr (5, [.null, .int 0, .int 0, .int 0, .null, .null, .int 0, .int 0, .int 0, .int 0, .null, .int 0])))) (Kq D cA b ad k 4) 3 16 (Ab (b + k)) := by
  refine Ct_ofK (by decide) rfl (Nat.le_of_ble_eq_true rfl) ?_
  intro p e R s m args below meth c ls Q H hR hQ hx hb hts hown hml hr hlk hnm hC hA hs0 hP hD hS hz hl
  have hRf : R.frames = 2 := by rw [hR]
  have hRl : R.locals = 40 := by rw [hR]
  have hown : s.vm.findClass "TypeGuard$Rule" = some m.cls := hown
  have hl : lv_has ls 1 [(0, .ref (b + k))] := hl
  refine lv_aload_n hx hb d_icRule_0 rfl (lv_at hl 0 rfl) ?_
  refine W.objInit hx hb hown (hts _ t_95) (hts _ t_33) (hts _ t_34) rfl (hl.1.trans hml.symm) rfl d_icRule_1 (by rw [hRf]; decide) (by rw [hRl]; exact Nat.le_of_ble_eq_true rfl) ?_
  refine lv_aload_n hx hb d_icRule_4 rfl (lv_at hl 0 rfl) ?_
  refine st_W (i := 0) hx hb hC (vS_up hS) hown (hts _ t_96) d_icRule_5 (by decide) ?_
  refine va_put (ci := 5) (C := rR5) (T := rT5) (N := 12) (ty := .object "TypeGuard$Word") hx hb hts in_c14 ry5 ft_c14 fn_c14 hown hC.1 hP hD hS 0 rfl rfl 0 (by decide) (hts _ t_130) (fun _ h9 => h9) rfl (by decide +kernel) rfl rfl (Nat.le_of_ble_eq_true rfl) d_icRule_8 (fun H locs hP hD hS => ?_)
  have hP : va_P D kCl [(b + k, .inr (5, [.ref (ad 0), .int 0, .int 0, .int 0, .null, .null, .int 0, .int 0, .int 0, .int 0, .null, .int 0]))] H := hP
  have hD : va_D (Ab (b + k)) [(b + k, .inr (5, [.ref (ad 0), .int 0, .int 0, .int 0, .null, .null, .int 0, .int 0, .int 0, .int 0, .null, .int 0]))] := hD
  refine kr_size (n := (k + 1)) (by omega) (by have h : b + k < H.size := (hP 0 _ rfl).lt; omega) (fun hz => ?_)
  refine lv_aload_n hx hb d_icRule_11 rfl (lv_at hl 0 rfl) ?_
  refine lv_iconst (v := (-1)) hx hb d_icRule_12 (by decide) ?_
  refine va_put (ci := 5) (C := rR5) (T := rT5) (N := 12) (ty := .int) hx hb hts in_c14 ry5 ft_c14 fn_c14 hown hC.1 hP hD hS 0 rfl rfl 2 (by decide) (hts _ t_135) (fun _ h9 => h9) rfl (by decide +kernel) rfl rfl (Nat.le_of_ble_eq_true rfl) d_icRule_13 (fun H locs hP hD hS => ?_)
  have hP : va_P D kCl [(b + k, .inr (5, [.ref (ad 0), .int 0, .int (-1), .int 0, .null, .null, .int 0, .int 0, .int 0, .int 0, .null, .int 0]))] H := hP
  have hD : va_D (Ab (b + k)) [(b + k, .inr (5, [.ref (ad 0), .int 0, .int (-1), .int 0, .null, .null, .int 0, .int 0, .int 0, .int 0, .null, .int 0]))] := hD
  refine kr_size (n := (k + 1)) (by omega) (by have h : b + k < H.size := (hP 0 _ rfl).lt; omega) (fun hz => ?_)
  refine lv_aload_n hx hb d_icRule_16 rfl (lv_at hl 0 rfl) ?_
  refine kr_new (n := (k + 1)) (C := rR6) (T := rT6) (N := 6) (ci := 6) (fs := [.int 0, .int 0, .int 0, .int 0, .int 0, .int 0]) hx hb hts in_c15 ry6 ft_c15 hown t_98 t_99 t_9 hC hP hS hz rfl (by decide +kernel) (by rw [hR]; exact Nat.le_of_ble_eq_true rfl) (by rw [hR]; exact Nat.le_of_ble_eq_true rfl) d_icRule_17 (fun H hP hlt hB hS hz => ?_)
  refine lv_dup hx hb d_icRule_20 rfl ?_
  refine kr_call (n := (k + 1)) (va_runIN (As := []) (rest := [.ref (b + (k + 1)), .ref (b + k)]) (n := 0) ⟨hx, hb, hml, hown, hts⟩ (M_icTypeSet (kx_14_1 hk)) ⟨va_cnB 0 hts (good_TW t_102) rfl rfl rfl (hC.2.1 _ t_100) (hts _ t_9) (by decide +kernel) ⟨by rw [hRf]; decide, by rw [hRl]; decide⟩, rfl, hts _ t_101⟩ ⟨Kp_blind, Kp_pre hC hA hz hB hS⟩ rfl rfl hl.1 rfl (lv_room (Nat.le_of_ble_eq_true rfl)) d_icRule_21 ⟨(by rw [hR]; exact Nat.le_of_ble_eq_true rfl), (by rw [hR]; exact Nat.le_of_ble_eq_true rfl)⟩) hP hlt hD hS hz (by omega) (fun H locs hP hD hS hz => ?_)
  have hP : va_P D kCl [(b + k, .inr (5, [.ref (ad 0), .int 0, .int (-1), .int 0, .null, .null, .int 0, .int 0, .int 0, .int 0, .null, .int 0])), (b + (k + 1), cS cA b ad Z0 (k + 1))] H := hP
  have hD : va_D (Ab (b + k)) [(b + k, .inr (5, [.ref (ad 0), .int 0, .int (-1), .int 0, .null, .null, .int 0, .int 0, .int 0, .int 0, .null, .int 0])), (b + (k + 1), cS cA b ad Z0 (k + 1))] := hD
  refine va_putF (ci := 5) (C := rR5) (T := rT5) (N := 12) (ty := .object "TypeGuard$TypeSet") hx hb hts in_c14 ry5 ft_c14 fn_c14 hown hC.1 hP hD hS 0 rfl rfl 4 (by decide) (hts _ t_139) (fun _ h9 => h9) rfl hnm rfl (by decide +kernel) rfl rfl (Nat.le_of_ble_eq_true rfl) d_icRule_24 (fun H locs hP hD hS => ?_)
  have hP : va_P D kCl [(b + k, .inr (5, [.ref (ad 0), .int 0, .int (-1), .int 0, .ref (b + (k + 1)), .null, .int 0, .int 0, .int 0, .int 0, .null, .int 0])), (b + (k + 1), cS cA b ad Z0 (k + 1))] H := hP
  have hD : va_D (Ab (b + k)) [(b + k, .inr (5, [.ref (ad 0), .int 0, .int (-1), .int 0, .ref (b + (k + 1)), .null, .int 0, .int 0, .int 0, .int 0, .null, .int 0])), (b + (k + 1), cS cA b ad Z0 (k + 1))] := hD
  refine kr_size (n := (k + 2)) (by omega) (by have h : b + (k + 1) < H.size := (hP 1 _ rfl).lt; omega) (fun hz => ?_)
  refine lv_aload_n hx hb d_icRule_27 rfl (lv_at hl 0 rfl) ?_
  refine kr_new (n := (k + 2)) (C := rR6) (T := rT6) (N := 6) (ci := 6) (fs := [.int 0, .int 0, .int 0, .int 0, .int 0, .int 0]) hx hb hts in_c15 ry6 ft_c15 hown t_98 t_99 t_9 hC hP hS hz rfl (by decide +kernel) (by rw [hR]; exact Nat.le_of_ble_eq_true rfl) (by rw [hR]; exact Nat.le_of_ble_eq_true rfl) d_icRule_28 (fun H hP hlt hB hS hz => ?_)
  refine lv_dup hx hb d_icRule_31 rfl ?_
  refine kr_call (n := (k + 2)) (va_runIN (As := []) (rest := [.ref (b + (k + 2)), .ref (b + k)]) (n := 0) ⟨hx, hb, hml, hown, hts⟩ (M_icTypeSet (kx_14_2 hk)) ⟨va_cnB 0 hts (good_TW t_102) rfl rfl rfl (hC.2.1 _ t_100) (hts _ t_9) (by decide +kernel) ⟨by rw [hRf]; decide, by rw [hRl]; decide⟩, rfl, hts _ t_101⟩ ⟨Kp_blind, Kp_pre hC hA hz hB hS⟩ rfl rfl hl.1 rfl (lv_room (Nat.le_of_ble_eq_true rfl)) d_icRule_32 ⟨(by rw [hR]; exact Nat.le_of_ble_eq_true rfl), (by rw [hR]; exact Nat.le_of_ble_eq_true rfl)⟩) hP hlt hD hS hz (by omega) (fun H locs hP hD hS hz => ?_)
  have hP : va_P D kCl [(b + k, .inr (5, [.ref (ad 0), .int 0, .int (-1), .int 0, .ref (b + (k + 1)), .null, .int 0, .int 0, .int 0, .int 0, .null, .int 0])), (b + (k + 1), cS cA b ad Z0 (k + 1)), (b + (k + 2), cS cA b ad Z0 (k + 2))] H := hP
  have hD : va_D (Ab (b + k)) [(b + k, .inr (5, [.ref (ad 0), .int 0, .int (-1), .int 0, .ref (b + (k + 1)), .null, .int 0, .int 0, .int 0, .int 0, .null, .int 0])), (b + (k + 1), cS cA b ad Z0 (k + 1)), (b + (k + 2), cS cA b ad Z0 (k + 2))] := hD
  refine va_putF (ci := 5) (C := rR5) (T := rT5) (N := 12) (ty := .object "TypeGuard$TypeSet") hx hb hts in_c14 ry5 ft_c14 fn_c14 hown hC.1 hP hD hS 0 rfl rfl 5 (by decide) (hts _ t_142) (fun _ h9 => h9) rfl hnm rfl (by decide +kernel) rfl rfl (Nat.le_of_ble_eq_true rfl) d_icRule_35 (fun H locs hP hD hS => ?_)
  have hP : va_P D kCl [(b + k, .inr (5, [.ref (ad 0), .int 0, .int (-1), .int 0, .ref (b + (k + 1)), .ref (b + (k + 2)), .int 0, .int 0, .int 0, .int 0, .null, .int 0])), (b + (k + 1), cS cA b ad Z0 (k + 1)), (b + (k + 2), cS cA b ad Z0 (k + 2))] H := hP
  have hD : va_D (Ab (b + k)) [(b + k, .inr (5, [.ref (ad 0), .int 0, .int (-1), .int 0, .ref (b + (k + 1)), .ref (b + (k + 2)), .int 0, .int 0, .int 0, .int 0, .null, .int 0])), (b + (k + 1), cS cA b ad Z0 (k + 1)), (b + (k + 2), cS cA b ad Z0 (k + 2))] := hD
  refine kr_size (n := (k + 3)) (by omega) (by have h : b + (k + 2) < H.size := (hP 2 _ rfl).lt; omega) (fun hz => ?_)
  refine lv_aload_n hx hb d_icRule_38 rfl (lv_at hl 0 rfl) ?_
  refine lv_iconst (v := 4) hx hb d_icRule_39 (by decide) ?_
  refine kr_arr (n := (k + 3)) (t := 0) (N := 4) hx hb hts t_64 rfl hP hD hS (by omega) hz (az_16 (kx_14_3 hk)) (hC.1.2 0 _ rfl).2 (fun _ => rfl) (by decide) (by decide) (by decide) (by rw [hR]; exact Nat.le_of_ble_eq_true rfl) (by rw [hR]; exact Nat.le_of_ble_eq_true rfl) d_icRule_40 (fun H hP hD hS hz => ?_)
  have hP : va_P D kCl [(b + k, .inr (5, [.ref (ad 0), .int 0, .int (-1), .int 0, .ref (b + (k + 1)), .ref (b + (k + 2)), .int 0, .int 0, .int 0, .int 0, .null, .int 0])), (b + (k + 1), cS cA b ad Z0 (k + 1)), (b + (k + 2), cS cA b ad Z0 (k + 2)), (b + (k + 3), cS cA b ad Z0 (k + 3))] H := hP
  have hD : va_D (Ab (b + k)) [(b + k, .inr (5, [.ref (ad 0), .int 0, .int (-1), .int 0, .ref (b + (k + 1)), .ref (b + (k + 2)), .int 0, .int 0, .int 0, .int 0, .null, .int 0])), (b + (k + 1), cS cA b ad Z0 (k + 1)), (b + (k + 2), cS cA b ad Z0 (k + 2)), (b + (k + 3), cS cA b ad Z0 (k + 3))] := hD
  refine va_putF (ci := 5) (C := rR5) (T := rT5) (N := 12) (ty := .array (.int)) hx hb hts in_c14 ry5 ft_c14 fn_c14 hown hC.1 hP hD hS 0 rfl rfl 10 (by decide) (hts _ t_154) (fun _ h9 => h9) rfl hnm rfl (by decide +kernel) rfl rfl (Nat.le_of_ble_eq_true rfl) d_icRule_42 (fun H locs hP hD hS => ?_)
  have hP : va_P D kCl [(b + k, .inr (5, [.ref (ad 0), .int 0, .int (-1), .int 0, .ref (b + (k + 1)), .ref (b + (k + 2)), .int 0, .int 0, .int 0, .int 0, .ref (b + (k + 3)), .int 0])), (b + (k + 1), cS cA b ad Z0 (k + 1)), (b + (k + 2), cS cA b ad Z0 (k + 2)), (b + (k + 3), cS cA b ad Z0 (k + 3))] H := hP
  have hD : va_D (Ab (b + k)) [(b + k, .inr (5, [.ref (ad 0), .int 0, .int (-1), .int 0, .ref (b + (k + 1)), .ref (b + (k + 2)), .int 0, .int 0, .int 0, .int 0, .ref (b + (k + 3)), .int 0])), (b + (k + 1), cS cA b ad Z0 (k + 1)), (b + (k + 2), cS cA b ad Z0 (k + 2)), (b + (k + 3), cS cA b ad Z0 (k + 3))] := hD
  refine kr_size (n := (k + 4)) (by omega) (by have h : b + (k + 3) < H.size := (hP 3 _ rfl).lt; omega) (fun hz => ?_)
  refine lv_aload_n hx hb d_icRule_45 rfl (lv_at hl 0 rfl) ?_
  refine lv_iconst (v := (-1)) hx hb d_icRule_46 (by decide) ?_
  refine va_put (ci := 5) (C := rR5) (T := rT5) (N := 12) (ty := .int) hx hb hts in_c14 ry5 ft_c14 fn_c14 hown hC.1 hP hD hS 0 rfl rfl 11 (by decide) (hts _ t_157) (fun _ h9 => h9) rfl (by decide +kernel) rfl rfl (Nat.le_of_ble_eq_true rfl) d_icRule_47 (fun H locs hP hD hS => ?_)
  have hP : va_P D kCl [(b + k, .inr (5, [.ref (ad 0), .int 0, .int (-1), .int 0, .ref (b + (k + 1)), .ref (b + (k + 2)), .int 0, .int 0, .int 0, .int 0, .ref (b + (k + 3)), .int (-1)])), (b + (k + 1), cS cA b ad Z0 (k + 1)), (b + (k + 2), cS cA b ad Z0 (k + 2)), (b + (k + 3), cS cA b ad Z0 (k + 3))] H := hP
  have hD : va_D (Ab (b + k)) [(b + k, .inr (5, [.ref (ad 0), .int 0, .int (-1), .int 0, .ref (b + (k + 1)), .ref (b + (k + 2)), .int 0, .int 0, .int 0, .int 0, .ref (b + (k + 3)), .int (-1)])), (b + (k + 1), cS cA b ad Z0 (k + 1)), (b + (k + 2), cS cA b ad Z0 (k + 2)), (b + (k + 3), cS cA b ad Z0 (k + 3))] := hD
  refine kr_size (n := (k + 4)) (by omega) (by have h : b + (k + 3) < H.size := (hP 3 _ rfl).lt; omega) (fun hz => ?_)
  have e0 : (b + k, cS cA b ad Z0 k) = (b + k, .inr (5, [.ref (ad 0), .int 0, .int (-1), .int 0, .ref (b + (k + 1)), .ref (b + (k + 2)), .int 0, .int 0, .int 0, .int 0, .ref (b + (k + 3)), .int (-1)])) := congrArg (Prod.mk (b + k)) (oz_14 hk)
  rw [← e0] at hP
  have hP : va_P D kCl (wI cA b ad (List.range' k 4)) H := hP
  exact kr_ret hQ hx hb hr hP hS (by omega) (by decide) (by decide) hlk d_icRule_50
abbrev y_icTokens : MethodName := ({ cls := "TypeGuard$Tokens", name := "<init>", desc := "()V" } : Jvm.MethodName)
theorem d_icTokens_0 : decode prog_9_method_1_code 0 = .ok (.aload_n 0, 1) := by decide +kernel
theorem d_icTokens_1 : decode prog_9_method_1_code 1 = .ok (.invokespecial 3, 3) := by decide +kernel
theorem d_icTokens_4 : decode prog_9_method_1_code 4 = .ok (.aload_n 0, 1) := by decide +kernel
theorem d_icTokens_5 : decode prog_9_method_1_code 5 = .ok (.sipush 481, 3) := by decide +kernel
theorem d_icTokens_8 : decode prog_9_method_1_code 8 = .ok (.newarray .char, 2) := by decide +kernel
theorem d_icTokens_10 : decode prog_9_method_1_code 10 = .ok (.putfield 9, 3) := by decide +kernel
theorem d_icTokens_13 : decode prog_9_method_1_code 13 = .ok (.aload_n 0, 1) := by decide +kernel
theorem d_icTokens_14 : decode prog_9_method_1_code 14 = .ok (.sipush 481, 3) := by decide +kernel
theorem d_icTokens_17 : decode prog_9_method_1_code 17 = .ok (.newarray .int, 2) := by decide +kernel
theorem d_icTokens_19 : decode prog_9_method_1_code 19 = .ok (.putfield 15, 3) := by decide +kernel
theorem d_icTokens_22 : decode prog_9_method_1_code 22 = .ok (.aload_n 0, 1) := by decide +kernel
theorem d_icTokens_23 : decode prog_9_method_1_code 23 = .ok (.sipush 481, 3) := by decide +kernel
theorem d_icTokens_26 : decode prog_9_method_1_code 26 = .ok (.newarray .long, 2) := by decide +kernel
theorem d_icTokens_28 : decode prog_9_method_1_code 28 = .ok (.putfield 19, 3) := by decide +kernel
theorem d_icTokens_31 : decode prog_9_method_1_code 31 = .ok (.return_, 1) := by decide +kernel
set_option maxHeartbeats 8000000 in
set_option maxRecDepth 100000 in
theorem M_icTokens {l : Launch} {D : va_G} {cA : Nat → ClassId} {b : Nat} {ad : Nat → Nat} : Met l y_icTokens (Cond.code y_icTokens prog_9_method_1_code 1 none :: TW) { frames := 1, cells := 3, slots := 1443, locals := 20 } (va_Pc [.ref (b + 3)] (Kp D cA b ad 3 (.inr (2, [.null, .null, .null, .int 0, .int 0])))) (Kq D cA b ad 3 4) 3 1443 (Ab (b + 3)) := by
  refine Ct_ofK (by decide) rfl (Nat.le_of_ble_eq_true rfl) ?_
  intro p e R s m args below meth c ls Q H hR hQ hx hb hts hown hml hr hlk hnm hC hA hs0 hP hD hS hz hl
  have hRf : R.frames = 1 := by rw [hR]
  have hRl : R.locals = 20 := by rw [hR]
  have hown : s.vm.findClass "TypeGuard$Tokens" = some m.cls := hown
  have hl : lv_has ls 1 [(0, .ref (b + 3))] := hl
  refine lv_aload_n hx hb d_icTokens_0 rfl (lv_at hl 0 rfl) ?_
  refine W.objInit hx hb hown (hts _ t_46) (hts _ t_33) (hts _ t_34) rfl (hl.1.trans hml.symm) rfl d_icTokens_1 (by rw [hRf]; decide) (by rw [hRl]; exact Nat.le_of_ble_eq_true rfl) ?_
  refine lv_aload_n hx hb d_icTokens_4 rfl (lv_at hl 0 rfl) ?_
  refine lv_sipush (v := 481) hx hb d_icTokens_5 (by decide) ?_
  refine kr_arr (n := 4) (t := 2) (N := 481) hx hb hts t_63 rfl hP hD hS (by omega) hz (az_4 rfl) (hC.1.2 2 _ rfl).2 (fun _ => rfl) (by decide) (by decide) (by decide) (by rw [hR]; exact Nat.le_of_ble_eq_true rfl) (by rw [hR]; exact Nat.le_of_ble_eq_true rfl) d_icTokens_8 (fun H hP hD hS hz => ?_)
  have hP : va_P D kCl [(b + 3, .inr (2, [.null, .null, .null, .int 0, .int 0])), (b + 4, cS cA b ad Z0 4)] H := hP
  have hD : va_D (Ab (b + 3)) [(b + 3, .inr (2, [.null, .null, .null, .int 0, .int 0])), (b + 4, cS cA b ad Z0 4)] := hD
  refine va_putF (ci := 2) (C := rR2) (T := rT2) (N := 5) (ty := .array (.char)) hx hb hts in_c3 ry2 ft_c3 fn_c3 hown hC.1 hP hD hS 0 rfl rfl 0 (by decide) (hts _ t_47) (fun _ h9 => h9) rfl hnm rfl (by decide +kernel) rfl rfl (Nat.le_of_ble_eq_true rfl) d_icTokens_10 (fun H locs hP hD hS => ?_)
  have hP : va_P D kCl [(b + 3, .inr (2, [.ref (b + 4), .null, .null, .int 0, .int 0])), (b + 4, cS cA b ad Z0 4)] H := hP
  have hD : va_D (Ab (b + 3)) [(b + 3, .inr (2, [.ref (b + 4), .null, .null, .int 0, .int 0])), (b + 4, cS cA b ad Z0 4)] := hD
  refine kr_size (n := 5) (by omega) (by have h : b + 4 < H.size := (hP 1 _ rfl).lt; omega) (fun hz => ?_)
  refine lv_aload_n hx hb d_icTokens_13 rfl (lv_at hl 0 rfl) ?_
  refine lv_sipush (v := 481) hx hb d_icTokens_14 (by decide) ?_
  refine kr_arr (n := 5) (t := 0) (N := 481) hx hb hts t_64 rfl hP hD hS (by omega) hz (az_5 rfl) (hC.1.2 0 _ rfl).2 (fun _ => rfl) (by decide) (by decide) (by decide) (by rw [hR]; exact Nat.le_of_ble_eq_true rfl) (by rw [hR]; exact Nat.le_of_ble_eq_true rfl) d_icTokens_17 (fun H hP hD hS hz => ?_)
  have hP : va_P D kCl [(b + 3, .inr (2, [.ref (b + 4), .null, .null, .int 0, .int 0])), (b + 4, cS cA b ad Z0 4), (b + 5, cS cA b ad Z0 5)] H := hP
  have hD : va_D (Ab (b + 3)) [(b + 3, .inr (2, [.ref (b + 4), .null, .null, .int 0, .int 0])), (b + 4, cS cA b ad Z0 4), (b + 5, cS cA b ad Z0 5)] := hD
  refine va_putF (ci := 2) (C := rR2) (T := rT2) (N := 5) (ty := .array (.int)) hx hb hts in_c3 ry2 ft_c3 fn_c3 hown hC.1 hP hD hS 0 rfl rfl 1 (by decide) (hts _ t_48) (fun _ h9 => h9) rfl hnm rfl (by decide +kernel) rfl rfl (Nat.le_of_ble_eq_true rfl) d_icTokens_19 (fun H locs hP hD hS => ?_)
  have hP : va_P D kCl [(b + 3, .inr (2, [.ref (b + 4), .ref (b + 5), .null, .int 0, .int 0])), (b + 4, cS cA b ad Z0 4), (b + 5, cS cA b ad Z0 5)] H := hP
  have hD : va_D (Ab (b + 3)) [(b + 3, .inr (2, [.ref (b + 4), .ref (b + 5), .null, .int 0, .int 0])), (b + 4, cS cA b ad Z0 4), (b + 5, cS cA b ad Z0 5)] := hD
  refine kr_size (n := 6) (by omega) (by have h : b + 5 < H.size := (hP 2 _ rfl).lt; omega) (fun hz => ?_)
  refine lv_aload_n hx hb d_icTokens_22 rfl (lv_at hl 0 rfl) ?_
  refine lv_sipush (v := 481) hx hb d_icTokens_23 (by decide) ?_
  refine kr_arr (n := 6) (t := 1) (N := 481) hx hb hts t_65 rfl hP hD hS (by omega) hz (az_6 rfl) (hC.1.2 1 _ rfl).2 (fun _ => rfl) (by decide) (by decide) (by decide) (by rw [hR]; exact Nat.le_of_ble_eq_true rfl) (by rw [hR]; exact Nat.le_of_ble_eq_true rfl) d_icTokens_26 (fun H hP hD hS hz => ?_)
  have hP : va_P D kCl [(b + 3, .inr (2, [.ref (b + 4), .ref (b + 5), .null, .int 0, .int 0])), (b + 4, cS cA b ad Z0 4), (b + 5, cS cA b ad Z0 5), (b + 6, cS cA b ad Z0 6)] H := hP
  have hD : va_D (Ab (b + 3)) [(b + 3, .inr (2, [.ref (b + 4), .ref (b + 5), .null, .int 0, .int 0])), (b + 4, cS cA b ad Z0 4), (b + 5, cS cA b ad Z0 5), (b + 6, cS cA b ad Z0 6)] := hD
  refine va_putF (ci := 2) (C := rR2) (T := rT2) (N := 5) (ty := .array (.long)) hx hb hts in_c3 ry2 ft_c3 fn_c3 hown hC.1 hP hD hS 0 rfl rfl 2 (by decide) (hts _ t_49) (fun _ h9 => h9) rfl hnm rfl (by decide +kernel) rfl rfl (Nat.le_of_ble_eq_true rfl) d_icTokens_28 (fun H locs hP hD hS => ?_)
  have hP : va_P D kCl [(b + 3, .inr (2, [.ref (b + 4), .ref (b + 5), .ref (b + 6), .int 0, .int 0])), (b + 4, cS cA b ad Z0 4), (b + 5, cS cA b ad Z0 5), (b + 6, cS cA b ad Z0 6)] H := hP
  have hD : va_D (Ab (b + 3)) [(b + 3, .inr (2, [.ref (b + 4), .ref (b + 5), .ref (b + 6), .int 0, .int 0])), (b + 4, cS cA b ad Z0 4), (b + 5, cS cA b ad Z0 5), (b + 6, cS cA b ad Z0 6)] := hD
  refine kr_size (n := 7) (by omega) (by have h : b + 6 < H.size := (hP 3 _ rfl).lt; omega) (fun hz => ?_)
  have e0 : (b + 3, cS cA b ad Z0 3) = (b + 3, .inr (2, [.ref (b + 4), .ref (b + 5), .ref (b + 6), .int 0, .int 0])) := congrArg (Prod.mk (b + 3)) (rfl)
  rw [← e0] at hP
  have hP : va_P D kCl (wI cA b ad (List.range' 3 4)) H := hP
  exact kr_ret hQ hx hb hr hP hS (by omega) (by decide) (by decide) hlk d_icTokens_31
abbrev y_icVectorCache : MethodName := ({ cls := "TypeGuard$VectorCache", name := "<init>", desc := "()V" } : Jvm.MethodName)
theorem d_icVectorCache_0 : decode prog_11_method_1_code 0 = .ok (.aload_n 0, 1) := by decide +kernel
theorem d_icVectorCache_1 : decode prog_11_method_1_code 1 = .ok (.invokespecial 3, 3) := by decide +kernel
theorem d_icVectorCache_4 : decode prog_11_method_1_code 4 = .ok (.aload_n 0, 1) := by decide +kernel
theorem d_icVectorCache_5 : decode prog_11_method_1_code 5 = .ok (.bipush 6, 2) := by decide +kernel
theorem d_icVectorCache_7 : decode prog_11_method_1_code 7 = .ok (.anewarray 9, 3) := by decide +kernel
theorem d_icVectorCache_10 : decode prog_11_method_1_code 10 = .ok (.putfield 11, 3) := by decide +kernel
theorem d_icVectorCache_13 : decode prog_11_method_1_code 13 = .ok (.iconst 0, 1) := by decide +kernel
theorem d_icVectorCache_14 : decode prog_11_method_1_code 14 = .ok (.istore_n 1, 1) := by decide +kernel
theorem d_icVectorCache_15 : decode prog_11_method_1_code 15 = .ok (.iload_n 1, 1) := by decide +kernel
theorem d_icVectorCache_16 : decode prog_11_method_1_code 16 = .ok (.bipush 6, 2) := by decide +kernel
theorem d_icVectorCache_18 : decode prog_11_method_1_code 18 = .ok (.if_icmp .ge 22, 3) := by decide +kernel
theorem d_icVectorCache_21 : decode prog_11_method_1_code 21 = .ok (.aload_n 0, 1) := by decide +kernel
theorem d_icVectorCache_22 : decode prog_11_method_1_code 22 = .ok (.getfield 11, 3) := by decide +kernel
theorem d_icVectorCache_25 : decode prog_11_method_1_code 25 = .ok (.iload_n 1, 1) := by decide +kernel
theorem d_icVectorCache_26 : decode prog_11_method_1_code 26 = .ok (.new 9, 3) := by decide +kernel
theorem d_icVectorCache_29 : decode prog_11_method_1_code 29 = .ok (.dup, 1) := by decide +kernel
theorem d_icVectorCache_30 : decode prog_11_method_1_code 30 = .ok (.invokespecial 17, 3) := by decide +kernel
theorem d_icVectorCache_33 : decode prog_11_method_1_code 33 = .ok (.aastore, 1) := by decide +kernel
theorem d_icVectorCache_34 : decode prog_11_method_1_code 34 = .ok (.iinc 1 1, 3) := by decide +kernel
theorem d_icVectorCache_37 : decode prog_11_method_1_code 37 = .ok (.goto (-22), 3) := by decide +kernel
theorem d_icVectorCache_40 : decode prog_11_method_1_code 40 = .ok (.return_, 1) := by decide +kernel
set_option maxHeartbeats 8000000 in
set_option maxRecDepth 100000 in
theorem M_icVectorCache {l : Launch} {D : va_G} {cA : Nat → ClassId} {b : Nat} {ad : Nat → Nat} : Met l y_icVectorCache (Cond.code y_icVectorCache prog_11_method_1_code 2 none :: TW) { frames := 2, cells := 7, slots := 54, locals := 40 } (va_Pc [.ref (b + 244)] (Kp D cA b ad 244 (.inr (8, [.null, .int 0, .int 0, .int 0, .int 0])))) (Kq D cA b ad 244 8) 7 54 (Ab (b + 244)) := by
  refine Ct_ofK (by decide) rfl (Nat.le_of_ble_eq_true rfl) ?_
  intro p e R s m args below meth c ls Q H hR hQ hx hb hts hown hml hr hlk hnm hC hA hs0 hP hD hS hz hl
  have hRf : R.frames = 2 := by rw [hR]
  have hRl : R.locals = 40 := by rw [hR]
  have hown : s.vm.findClass "TypeGuard$VectorCache" = some m.cls := hown
  have hl : lv_has ls 2 [(0, .ref (b + 244))] := hl
  refine lv_aload_n hx hb d_icVectorCache_0 rfl (lv_at hl 0 rfl) ?_
  refine W.objInit hx hb hown (hts _ t_255) (hts _ t_33) (hts _ t_34) rfl (hl.1.trans hml.symm) rfl d_icVectorCache_1 (by rw [hRf]; decide) (by rw [hRl]; exact Nat.le_of_ble_eq_true rfl) ?_
  refine lv_aload_n hx hb d_icVectorCache_4 rfl (lv_at hl 0 rfl) ?_
  refine lv_bipush (v := 6) hx hb d_icVectorCache_5 (by decide) ?_
  refine kr_anew (n := 245) (t := 6) (N := 6) hx hb hts hown t_256 hA.2.2.1 hP hD hS (by omega) hz (hC.1.2 6 _ rfl).2 (by decide) (by decide) (by decide) (by rw [hR]; exact Nat.le_of_ble_eq_true rfl) (by rw [hR]; exact Nat.le_of_ble_eq_true rfl) d_icVectorCache_7 (fun H hP hD hS hz => ?_)
  have hP : va_P D kCl [(b + 244, .inr (8, [.null, .int 0, .int 0, .int 0, .int 0])), (b + 245, .inl (cA 6, 6, .inr (.inr (.inr (.inr (fun _ => none))))))] H := hP
  have hD : va_D (Ab (b + 244)) [(b + 244, .inr (8, [.null, .int 0, .int 0, .int 0, .int 0])), (b + 245, .inl (cA 6, 6, .inr (.inr (.inr (.inr (fun _ => none))))))] := hD
  refine va_putF (ci := 8) (C := rR8) (T := rT8) (N := 5) (ty := .array (.object "TypeGuard$Entry")) hx hb hts in_c20 ry8 ft_c20 fn_c20 hown hC.1 hP hD hS 0 rfl rfl 0 (by decide) (hts _ t_293) (fun _ h9 => h9) rfl hnm rfl (by decide +kernel) rfl rfl (Nat.le_of_ble_eq_true rfl) d_icVectorCache_10 (fun H locs hP hD hS => ?_)
  have hP : va_P D kCl [(b + 244, .inr (8, [.ref (b + 245), .int 0, .int 0, .int 0, .int 0])), (b + 245, .inl (cA 6, 6, .inr (.inr (.inr (.inr (fun _ => none))))))] H := hP
  have hD : va_D (Ab (b + 244)) [(b + 244, .inr (8, [.ref (b + 245), .int 0, .int 0, .int 0, .int 0])), (b + 245, .inl (cA 6, 6, .inr (.inr (.inr (.inr (fun _ => none))))))] := hD
  refine kr_size (n := 246) (by omega) (by have h : b + 245 < H.size := (hP 1 _ rfl).lt; omega) (fun hz => ?_)
  refine lv_iconst (v := 0) hx hb d_icVectorCache_13 (by decide) ?_
  refine lv_istore_n (lv' := [(1, .int 0), (0, .ref (b + 244))]) hx hb d_icVectorCache_14 rfl hl (by decide) rfl (fun ls hl => ?_)
  refine lv_iload_n hx hb d_icVectorCache_15 rfl (lv_at hl 0 rfl) ?_
  refine lv_bipush (v := 6) hx hb d_icVectorCache_16 (by decide) ?_
  refine lv_icmp_ge hx hb d_icVectorCache_18 (tgt := 40) (by decide) (fun hc => ?_) (fun hc => ?_)
  · exact absurd hc (by decide)
  refine lv_aload_n hx hb d_icVectorCache_21 rfl (lv_at hl 1 rfl) ?_
  refine va_get (ci := 8) (C := rR8) (T := rT8) (N := 5) hx hb hts in_c20 hown hC.1 hP 0 rfl rfl 0 (by decide) (hts _ t_293) (fun _ h9 => h9) rfl d_icVectorCache_22 ?_
  refine lv_iload_n hx hb d_icVectorCache_25 rfl (lv_at hl 0 rfl) ?_
  refine kr_new (n := 246) (C := rR7) (T := rT7) (N := 8) (ci := 7) (fs := [.int 0, .int 0, .int 0, .int 0, .int 0, .int 0, .int 0, .int 0]) hx hb hts in_c22 ry7 ft_c22 hown t_256 t_258 t_11 hC hP hS hz rfl (by decide +kernel) (by rw [hR]; exact Nat.le_of_ble_eq_true rfl) (by rw [hR]; exact Nat.le_of_ble_eq_true rfl) d_icVectorCache_26 (fun H hP hlt hB hS hz => ?_)
  refine lv_dup hx hb d_icVectorCache_29 rfl ?_
  refine kr_call (n := 246) (va_runIN (As := []) (rest := [.ref (b + 246), .int 0, .ref (b + 245)]) (n := 0) ⟨hx, hb, hml, hown, hts⟩ (M_icEntry (by rfl)) ⟨va_cnB 0 hts (good_TW t_261) rfl rfl rfl (hC.2.1 _ t_259) (hts _ t_11) (by decide +kernel) ⟨by rw [hRf]; decide, by rw [hRl]; decide⟩, rfl, hts _ t_260⟩ ⟨Kp_blind, Kp_pre hC hA hz hB hS⟩ rfl rfl hl.1 rfl (lv_room (Nat.le_of_ble_eq_true rfl)) d_icVectorCache_30 ⟨(by rw [hR]; exact Nat.le_of_ble_eq_true rfl), (by rw [hR]; exact Nat.le_of_ble_eq_true rfl)⟩) hP hlt hD hS hz (by omega) (fun H locs hP hD hS hz => ?_)
  have hP : va_P D kCl ([(b + 244, .inr (8, [.ref (b + 245), .int 0, .int 0, .int 0, .int 0])), (b + 245, .inl (cA 6, 6, .inr (.inr (.inr (.inr (fun _ => none))))))] ++ wI cA b ad (List.range' 246 1)) H := hP
  have hD : va_D (Ab (b + 244)) ([(b + 244, .inr (8, [.ref (b + 245), .int 0, .int 0, .int 0, .int 0])), (b + 245, .inl (cA 6, 6, .inr (.inr (.inr (.inr (fun _ => none))))))] ++ wI cA b ad (List.range' 246 1)) := hD
  refine va_astq (a := b + 245) (v := b + 246) hx hb hC.1 hP hD hS 1 6 2 7 (r := (rR7, rT7, 8)) rfl rfl (wat rfl (oz_22 rfl)) rfl (inbd_in (i := 0) (n := 6) (by decide)) d_icVectorCache_33 (fun H locs hP hD hS => ?_)
  have hP : va_P D kCl ([(b + 244, .inr (8, [.ref (b + 245), .int 0, .int 0, .int 0, .int 0])), (b + 245, .inl (cA 6, 6, .inr (.inr (.inr (.inr (va_up (fun _ => none) 0 (some (b + 246))))))))] ++ wI cA b ad (List.range' 246 1)) H := hP
  have hD : va_D (Ab (b + 244)) ([(b + 244, .inr (8, [.ref (b + 245), .int 0, .int 0, .int 0, .int 0])), (b + 245, .inl (cA 6, 6, .inr (.inr (.inr (.inr (va_up (fun _ => none) 0 (some (b + 246))))))))] ++ wI cA b ad (List.range' 246 1)) := hD
  refine kr_size (n := 247) (by omega) (by have h := P_lt (by decide) hP; omega) (fun hz => ?_)
  refine lv_iinc (v := 1) (lv' := [(1, .int 1), (0, .ref (b + 244))]) hx hb d_icVectorCache_34 hl (k := 0) rfl (by decide) (by decide) rfl (fun ls hl => ?_)
  refine lv_goto hx hb d_icVectorCache_37 (tgt := 15) (by decide) ?_
  refine lv_iload_n hx hb d_icVectorCache_15 rfl (lv_at hl 0 rfl) ?_
  refine lv_bipush (v := 6) hx hb d_icVectorCache_16 (by decide) ?_
  refine lv_icmp_ge hx hb d_icVectorCache_18 (tgt := 40) (by decide) (fun hc => ?_) (fun hc => ?_)
  · exact absurd hc (by decide)
  refine lv_aload_n hx hb d_icVectorCache_21 rfl (lv_at hl 1 rfl) ?_
  refine va_get (ci := 8) (C := rR8) (T := rT8) (N := 5) hx hb hts in_c20 hown hC.1 hP 0 rfl rfl 0 (by decide) (hts _ t_293) (fun _ h9 => h9) rfl d_icVectorCache_22 ?_
  refine lv_iload_n hx hb d_icVectorCache_25 rfl (lv_at hl 0 rfl) ?_
  refine kr_new (n := 247) (C := rR7) (T := rT7) (N := 8) (ci := 7) (fs := [.int 0, .int 0, .int 0, .int 0, .int 0, .int 0, .int 0, .int 0]) hx hb hts in_c22 ry7 ft_c22 hown t_256 t_258 t_11 hC hP hS hz rfl (by decide +kernel) (by rw [hR]; exact Nat.le_of_ble_eq_true rfl) (by rw [hR]; exact Nat.le_of_ble_eq_true rfl) d_icVectorCache_26 (fun H hP hlt hB hS hz => ?_)
  refine lv_dup hx hb d_icVectorCache_29 rfl ?_
  refine kr_call (n := 247) (va_runIN (As := []) (rest := [.ref (b + 247), .int 1, .ref (b + 245)]) (n := 0) ⟨hx, hb, hml, hown, hts⟩ (M_icEntry (by rfl)) ⟨va_cnB 0 hts (good_TW t_261) rfl rfl rfl (hC.2.1 _ t_259) (hts _ t_11) (by decide +kernel) ⟨by rw [hRf]; decide, by rw [hRl]; decide⟩, rfl, hts _ t_260⟩ ⟨Kp_blind, Kp_pre hC hA hz hB hS⟩ rfl rfl hl.1 rfl (lv_room (Nat.le_of_ble_eq_true rfl)) d_icVectorCache_30 ⟨(by rw [hR]; exact Nat.le_of_ble_eq_true rfl), (by rw [hR]; exact Nat.le_of_ble_eq_true rfl)⟩) hP hlt hD hS hz (by omega) (fun H locs hP hD hS hz => ?_)
  have hP : va_P D kCl ([(b + 244, .inr (8, [.ref (b + 245), .int 0, .int 0, .int 0, .int 0])), (b + 245, .inl (cA 6, 6, .inr (.inr (.inr (.inr (va_up (fun _ => none) 0 (some (b + 246))))))))] ++ wI cA b ad (List.range' 246 2)) H := P_cat hP (by omega)
  have hD : va_D (Ab (b + 244)) ([(b + 244, .inr (8, [.ref (b + 245), .int 0, .int 0, .int 0, .int 0])), (b + 245, .inl (cA 6, 6, .inr (.inr (.inr (.inr (va_up (fun _ => none) 0 (some (b + 246))))))))] ++ wI cA b ad (List.range' 246 2)) := D_cat hD (by omega)
  refine va_astq (a := b + 245) (v := b + 247) hx hb hC.1 hP hD hS 1 6 3 7 (r := (rR7, rT7, 8)) rfl rfl (wat rfl (oz_22 rfl)) rfl (inbd_in (i := 1) (n := 6) (by decide)) d_icVectorCache_33 (fun H locs hP hD hS => ?_)
  have hP : va_P D kCl ([(b + 244, .inr (8, [.ref (b + 245), .int 0, .int 0, .int 0, .int 0])), (b + 245, .inl (cA 6, 6, .inr (.inr (.inr (.inr (va_up (va_up (fun _ => none) 0 (some (b + 246))) 1 (some (b + 247))))))))] ++ wI cA b ad (List.range' 246 2)) H := hP
  have hD : va_D (Ab (b + 244)) ([(b + 244, .inr (8, [.ref (b + 245), .int 0, .int 0, .int 0, .int 0])), (b + 245, .inl (cA 6, 6, .inr (.inr (.inr (.inr (va_up (va_up (fun _ => none) 0 (some (b + 246))) 1 (some (b + 247))))))))] ++ wI cA b ad (List.range' 246 2)) := hD
  refine kr_size (n := 248) (by omega) (by have h := P_lt (by decide) hP; omega) (fun hz => ?_)
  refine lv_iinc (v := 2) (lv' := [(1, .int 2), (0, .ref (b + 244))]) hx hb d_icVectorCache_34 hl (k := 0) rfl (by decide) (by decide) rfl (fun ls hl => ?_)
  refine lv_goto hx hb d_icVectorCache_37 (tgt := 15) (by decide) ?_
  refine lv_iload_n hx hb d_icVectorCache_15 rfl (lv_at hl 0 rfl) ?_
  refine lv_bipush (v := 6) hx hb d_icVectorCache_16 (by decide) ?_
  refine lv_icmp_ge hx hb d_icVectorCache_18 (tgt := 40) (by decide) (fun hc => ?_) (fun hc => ?_)
  · exact absurd hc (by decide)
  refine lv_aload_n hx hb d_icVectorCache_21 rfl (lv_at hl 1 rfl) ?_
  refine va_get (ci := 8) (C := rR8) (T := rT8) (N := 5) hx hb hts in_c20 hown hC.1 hP 0 rfl rfl 0 (by decide) (hts _ t_293) (fun _ h9 => h9) rfl d_icVectorCache_22 ?_
  refine lv_iload_n hx hb d_icVectorCache_25 rfl (lv_at hl 0 rfl) ?_
  refine kr_new (n := 248) (C := rR7) (T := rT7) (N := 8) (ci := 7) (fs := [.int 0, .int 0, .int 0, .int 0, .int 0, .int 0, .int 0, .int 0]) hx hb hts in_c22 ry7 ft_c22 hown t_256 t_258 t_11 hC hP hS hz rfl (by decide +kernel) (by rw [hR]; exact Nat.le_of_ble_eq_true rfl) (by rw [hR]; exact Nat.le_of_ble_eq_true rfl) d_icVectorCache_26 (fun H hP hlt hB hS hz => ?_)
  refine lv_dup hx hb d_icVectorCache_29 rfl ?_
  refine kr_call (n := 248) (va_runIN (As := []) (rest := [.ref (b + 248), .int 2, .ref (b + 245)]) (n := 0) ⟨hx, hb, hml, hown, hts⟩ (M_icEntry (by rfl)) ⟨va_cnB 0 hts (good_TW t_261) rfl rfl rfl (hC.2.1 _ t_259) (hts _ t_11) (by decide +kernel) ⟨by rw [hRf]; decide, by rw [hRl]; decide⟩, rfl, hts _ t_260⟩ ⟨Kp_blind, Kp_pre hC hA hz hB hS⟩ rfl rfl hl.1 rfl (lv_room (Nat.le_of_ble_eq_true rfl)) d_icVectorCache_30 ⟨(by rw [hR]; exact Nat.le_of_ble_eq_true rfl), (by rw [hR]; exact Nat.le_of_ble_eq_true rfl)⟩) hP hlt hD hS hz (by omega) (fun H locs hP hD hS hz => ?_)
  have hP : va_P D kCl ([(b + 244, .inr (8, [.ref (b + 245), .int 0, .int 0, .int 0, .int 0])), (b + 245, .inl (cA 6, 6, .inr (.inr (.inr (.inr (va_up (va_up (fun _ => none) 0 (some (b + 246))) 1 (some (b + 247))))))))] ++ wI cA b ad (List.range' 246 3)) H := P_cat hP (by omega)
  have hD : va_D (Ab (b + 244)) ([(b + 244, .inr (8, [.ref (b + 245), .int 0, .int 0, .int 0, .int 0])), (b + 245, .inl (cA 6, 6, .inr (.inr (.inr (.inr (va_up (va_up (fun _ => none) 0 (some (b + 246))) 1 (some (b + 247))))))))] ++ wI cA b ad (List.range' 246 3)) := D_cat hD (by omega)
  refine va_astq (a := b + 245) (v := b + 248) hx hb hC.1 hP hD hS 1 6 4 7 (r := (rR7, rT7, 8)) rfl rfl (wat rfl (oz_22 rfl)) rfl (inbd_in (i := 2) (n := 6) (by decide)) d_icVectorCache_33 (fun H locs hP hD hS => ?_)
  have hP : va_P D kCl ([(b + 244, .inr (8, [.ref (b + 245), .int 0, .int 0, .int 0, .int 0])), (b + 245, .inl (cA 6, 6, .inr (.inr (.inr (.inr (va_up (va_up (va_up (fun _ => none) 0 (some (b + 246))) 1 (some (b + 247))) 2 (some (b + 248))))))))] ++ wI cA b ad (List.range' 246 3)) H := hP
  have hD : va_D (Ab (b + 244)) ([(b + 244, .inr (8, [.ref (b + 245), .int 0, .int 0, .int 0, .int 0])), (b + 245, .inl (cA 6, 6, .inr (.inr (.inr (.inr (va_up (va_up (va_up (fun _ => none) 0 (some (b + 246))) 1 (some (b + 247))) 2 (some (b + 248))))))))] ++ wI cA b ad (List.range' 246 3)) := hD
  refine kr_size (n := 249) (by omega) (by have h := P_lt (by decide) hP; omega) (fun hz => ?_)
  refine lv_iinc (v := 3) (lv' := [(1, .int 3), (0, .ref (b + 244))]) hx hb d_icVectorCache_34 hl (k := 0) rfl (by decide) (by decide) rfl (fun ls hl => ?_)
  refine lv_goto hx hb d_icVectorCache_37 (tgt := 15) (by decide) ?_
  refine lv_iload_n hx hb d_icVectorCache_15 rfl (lv_at hl 0 rfl) ?_
  refine lv_bipush (v := 6) hx hb d_icVectorCache_16 (by decide) ?_
  refine lv_icmp_ge hx hb d_icVectorCache_18 (tgt := 40) (by decide) (fun hc => ?_) (fun hc => ?_)
  · exact absurd hc (by decide)
  refine lv_aload_n hx hb d_icVectorCache_21 rfl (lv_at hl 1 rfl) ?_
  refine va_get (ci := 8) (C := rR8) (T := rT8) (N := 5) hx hb hts in_c20 hown hC.1 hP 0 rfl rfl 0 (by decide) (hts _ t_293) (fun _ h9 => h9) rfl d_icVectorCache_22 ?_
  refine lv_iload_n hx hb d_icVectorCache_25 rfl (lv_at hl 0 rfl) ?_
  refine kr_new (n := 249) (C := rR7) (T := rT7) (N := 8) (ci := 7) (fs := [.int 0, .int 0, .int 0, .int 0, .int 0, .int 0, .int 0, .int 0]) hx hb hts in_c22 ry7 ft_c22 hown t_256 t_258 t_11 hC hP hS hz rfl (by decide +kernel) (by rw [hR]; exact Nat.le_of_ble_eq_true rfl) (by rw [hR]; exact Nat.le_of_ble_eq_true rfl) d_icVectorCache_26 (fun H hP hlt hB hS hz => ?_)
  refine lv_dup hx hb d_icVectorCache_29 rfl ?_
  refine kr_call (n := 249) (va_runIN (As := []) (rest := [.ref (b + 249), .int 3, .ref (b + 245)]) (n := 0) ⟨hx, hb, hml, hown, hts⟩ (M_icEntry (by rfl)) ⟨va_cnB 0 hts (good_TW t_261) rfl rfl rfl (hC.2.1 _ t_259) (hts _ t_11) (by decide +kernel) ⟨by rw [hRf]; decide, by rw [hRl]; decide⟩, rfl, hts _ t_260⟩ ⟨Kp_blind, Kp_pre hC hA hz hB hS⟩ rfl rfl hl.1 rfl (lv_room (Nat.le_of_ble_eq_true rfl)) d_icVectorCache_30 ⟨(by rw [hR]; exact Nat.le_of_ble_eq_true rfl), (by rw [hR]; exact Nat.le_of_ble_eq_true rfl)⟩) hP hlt hD hS hz (by omega) (fun H locs hP hD hS hz => ?_)
  have hP : va_P D kCl ([(b + 244, .inr (8, [.ref (b + 245), .int 0, .int 0, .int 0, .int 0])), (b + 245, .inl (cA 6, 6, .inr (.inr (.inr (.inr (va_up (va_up (va_up (fun _ => none) 0 (some (b + 246))) 1 (some (b + 247))) 2 (some (b + 248))))))))] ++ wI cA b ad (List.range' 246 4)) H := P_cat hP (by omega)
  have hD : va_D (Ab (b + 244)) ([(b + 244, .inr (8, [.ref (b + 245), .int 0, .int 0, .int 0, .int 0])), (b + 245, .inl (cA 6, 6, .inr (.inr (.inr (.inr (va_up (va_up (va_up (fun _ => none) 0 (some (b + 246))) 1 (some (b + 247))) 2 (some (b + 248))))))))] ++ wI cA b ad (List.range' 246 4)) := D_cat hD (by omega)
  refine va_astq (a := b + 245) (v := b + 249) hx hb hC.1 hP hD hS 1 6 5 7 (r := (rR7, rT7, 8)) rfl rfl (wat rfl (oz_22 rfl)) rfl (inbd_in (i := 3) (n := 6) (by decide)) d_icVectorCache_33 (fun H locs hP hD hS => ?_)
  have hP : va_P D kCl ([(b + 244, .inr (8, [.ref (b + 245), .int 0, .int 0, .int 0, .int 0])), (b + 245, .inl (cA 6, 6, .inr (.inr (.inr (.inr (va_up (va_up (va_up (va_up (fun _ => none) 0 (some (b + 246))) 1 (some (b + 247))) 2 (some (b + 248))) 3 (some (b + 249))))))))] ++ wI cA b ad (List.range' 246 4)) H := hP
  have hD : va_D (Ab (b + 244)) ([(b + 244, .inr (8, [.ref (b + 245), .int 0, .int 0, .int 0, .int 0])), (b + 245, .inl (cA 6, 6, .inr (.inr (.inr (.inr (va_up (va_up (va_up (va_up (fun _ => none) 0 (some (b + 246))) 1 (some (b + 247))) 2 (some (b + 248))) 3 (some (b + 249))))))))] ++ wI cA b ad (List.range' 246 4)) := hD
  refine kr_size (n := 250) (by omega) (by have h := P_lt (by decide) hP; omega) (fun hz => ?_)
  refine lv_iinc (v := 4) (lv' := [(1, .int 4), (0, .ref (b + 244))]) hx hb d_icVectorCache_34 hl (k := 0) rfl (by decide) (by decide) rfl (fun ls hl => ?_)
  refine lv_goto hx hb d_icVectorCache_37 (tgt := 15) (by decide) ?_
  refine lv_iload_n hx hb d_icVectorCache_15 rfl (lv_at hl 0 rfl) ?_
  refine lv_bipush (v := 6) hx hb d_icVectorCache_16 (by decide) ?_
  refine lv_icmp_ge hx hb d_icVectorCache_18 (tgt := 40) (by decide) (fun hc => ?_) (fun hc => ?_)
  · exact absurd hc (by decide)
  refine lv_aload_n hx hb d_icVectorCache_21 rfl (lv_at hl 1 rfl) ?_
  refine va_get (ci := 8) (C := rR8) (T := rT8) (N := 5) hx hb hts in_c20 hown hC.1 hP 0 rfl rfl 0 (by decide) (hts _ t_293) (fun _ h9 => h9) rfl d_icVectorCache_22 ?_
  refine lv_iload_n hx hb d_icVectorCache_25 rfl (lv_at hl 0 rfl) ?_
  refine kr_new (n := 250) (C := rR7) (T := rT7) (N := 8) (ci := 7) (fs := [.int 0, .int 0, .int 0, .int 0, .int 0, .int 0, .int 0, .int 0]) hx hb hts in_c22 ry7 ft_c22 hown t_256 t_258 t_11 hC hP hS hz rfl (by decide +kernel) (by rw [hR]; exact Nat.le_of_ble_eq_true rfl) (by rw [hR]; exact Nat.le_of_ble_eq_true rfl) d_icVectorCache_26 (fun H hP hlt hB hS hz => ?_)
  refine lv_dup hx hb d_icVectorCache_29 rfl ?_
  refine kr_call (n := 250) (va_runIN (As := []) (rest := [.ref (b + 250), .int 4, .ref (b + 245)]) (n := 0) ⟨hx, hb, hml, hown, hts⟩ (M_icEntry (by rfl)) ⟨va_cnB 0 hts (good_TW t_261) rfl rfl rfl (hC.2.1 _ t_259) (hts _ t_11) (by decide +kernel) ⟨by rw [hRf]; decide, by rw [hRl]; decide⟩, rfl, hts _ t_260⟩ ⟨Kp_blind, Kp_pre hC hA hz hB hS⟩ rfl rfl hl.1 rfl (lv_room (Nat.le_of_ble_eq_true rfl)) d_icVectorCache_30 ⟨(by rw [hR]; exact Nat.le_of_ble_eq_true rfl), (by rw [hR]; exact Nat.le_of_ble_eq_true rfl)⟩) hP hlt hD hS hz (by omega) (fun H locs hP hD hS hz => ?_)
  have hP : va_P D kCl ([(b + 244, .inr (8, [.ref (b + 245), .int 0, .int 0, .int 0, .int 0])), (b + 245, .inl (cA 6, 6, .inr (.inr (.inr (.inr (va_up (va_up (va_up (va_up (fun _ => none) 0 (some (b + 246))) 1 (some (b + 247))) 2 (some (b + 248))) 3 (some (b + 249))))))))] ++ wI cA b ad (List.range' 246 5)) H := P_cat hP (by omega)
  have hD : va_D (Ab (b + 244)) ([(b + 244, .inr (8, [.ref (b + 245), .int 0, .int 0, .int 0, .int 0])), (b + 245, .inl (cA 6, 6, .inr (.inr (.inr (.inr (va_up (va_up (va_up (va_up (fun _ => none) 0 (some (b + 246))) 1 (some (b + 247))) 2 (some (b + 248))) 3 (some (b + 249))))))))] ++ wI cA b ad (List.range' 246 5)) := D_cat hD (by omega)
  refine va_astq (a := b + 245) (v := b + 250) hx hb hC.1 hP hD hS 1 6 6 7 (r := (rR7, rT7, 8)) rfl rfl (wat rfl (oz_22 rfl)) rfl (inbd_in (i := 4) (n := 6) (by decide)) d_icVectorCache_33 (fun H locs hP hD hS => ?_)
  have hP : va_P D kCl ([(b + 244, .inr (8, [.ref (b + 245), .int 0, .int 0, .int 0, .int 0])), (b + 245, .inl (cA 6, 6, .inr (.inr (.inr (.inr (va_up (va_up (va_up (va_up (va_up (fun _ => none) 0 (some (b + 246))) 1 (some (b + 247))) 2 (some (b + 248))) 3 (some (b + 249))) 4 (some (b + 250))))))))] ++ wI cA b ad (List.range' 246 5)) H := hP
  have hD : va_D (Ab (b + 244)) ([(b + 244, .inr (8, [.ref (b + 245), .int 0, .int 0, .int 0, .int 0])), (b + 245, .inl (cA 6, 6, .inr (.inr (.inr (.inr (va_up (va_up (va_up (va_up (va_up (fun _ => none) 0 (some (b + 246))) 1 (some (b + 247))) 2 (some (b + 248))) 3 (some (b + 249))) 4 (some (b + 250))))))))] ++ wI cA b ad (List.range' 246 5)) := hD
  refine kr_size (n := 251) (by omega) (by have h := P_lt (by decide) hP; omega) (fun hz => ?_)
  refine lv_iinc (v := 5) (lv' := [(1, .int 5), (0, .ref (b + 244))]) hx hb d_icVectorCache_34 hl (k := 0) rfl (by decide) (by decide) rfl (fun ls hl => ?_)
  refine lv_goto hx hb d_icVectorCache_37 (tgt := 15) (by decide) ?_
  refine lv_iload_n hx hb d_icVectorCache_15 rfl (lv_at hl 0 rfl) ?_
  refine lv_bipush (v := 6) hx hb d_icVectorCache_16 (by decide) ?_
  refine lv_icmp_ge hx hb d_icVectorCache_18 (tgt := 40) (by decide) (fun hc => ?_) (fun hc => ?_)
  · exact absurd hc (by decide)
  refine lv_aload_n hx hb d_icVectorCache_21 rfl (lv_at hl 1 rfl) ?_
  refine va_get (ci := 8) (C := rR8) (T := rT8) (N := 5) hx hb hts in_c20 hown hC.1 hP 0 rfl rfl 0 (by decide) (hts _ t_293) (fun _ h9 => h9) rfl d_icVectorCache_22 ?_
  refine lv_iload_n hx hb d_icVectorCache_25 rfl (lv_at hl 0 rfl) ?_
  refine kr_new (n := 251) (C := rR7) (T := rT7) (N := 8) (ci := 7) (fs := [.int 0, .int 0, .int 0, .int 0, .int 0, .int 0, .int 0, .int 0]) hx hb hts in_c22 ry7 ft_c22 hown t_256 t_258 t_11 hC hP hS hz rfl (by decide +kernel) (by rw [hR]; exact Nat.le_of_ble_eq_true rfl) (by rw [hR]; exact Nat.le_of_ble_eq_true rfl) d_icVectorCache_26 (fun H hP hlt hB hS hz => ?_)
  refine lv_dup hx hb d_icVectorCache_29 rfl ?_
  refine kr_call (n := 251) (va_runIN (As := []) (rest := [.ref (b + 251), .int 5, .ref (b + 245)]) (n := 0) ⟨hx, hb, hml, hown, hts⟩ (M_icEntry (by rfl)) ⟨va_cnB 0 hts (good_TW t_261) rfl rfl rfl (hC.2.1 _ t_259) (hts _ t_11) (by decide +kernel) ⟨by rw [hRf]; decide, by rw [hRl]; decide⟩, rfl, hts _ t_260⟩ ⟨Kp_blind, Kp_pre hC hA hz hB hS⟩ rfl rfl hl.1 rfl (lv_room (Nat.le_of_ble_eq_true rfl)) d_icVectorCache_30 ⟨(by rw [hR]; exact Nat.le_of_ble_eq_true rfl), (by rw [hR]; exact Nat.le_of_ble_eq_true rfl)⟩) hP hlt hD hS hz (by omega) (fun H locs hP hD hS hz => ?_)
  have hP : va_P D kCl ([(b + 244, .inr (8, [.ref (b + 245), .int 0, .int 0, .int 0, .int 0])), (b + 245, .inl (cA 6, 6, .inr (.inr (.inr (.inr (va_up (va_up (va_up (va_up (va_up (fun _ => none) 0 (some (b + 246))) 1 (some (b + 247))) 2 (some (b + 248))) 3 (some (b + 249))) 4 (some (b + 250))))))))] ++ wI cA b ad (List.range' 246 6)) H := P_cat hP (by omega)
  have hD : va_D (Ab (b + 244)) ([(b + 244, .inr (8, [.ref (b + 245), .int 0, .int 0, .int 0, .int 0])), (b + 245, .inl (cA 6, 6, .inr (.inr (.inr (.inr (va_up (va_up (va_up (va_up (va_up (fun _ => none) 0 (some (b + 246))) 1 (some (b + 247))) 2 (some (b + 248))) 3 (some (b + 249))) 4 (some (b + 250))))))))] ++ wI cA b ad (List.range' 246 6)) := D_cat hD (by omega)
  refine va_astq (a := b + 245) (v := b + 251) hx hb hC.1 hP hD hS 1 6 7 7 (r := (rR7, rT7, 8)) rfl rfl (wat rfl (oz_22 rfl)) rfl (inbd_in (i := 5) (n := 6) (by decide)) d_icVectorCache_33 (fun H locs hP hD hS => ?_)
  have hP : va_P D kCl ([(b + 244, .inr (8, [.ref (b + 245), .int 0, .int 0, .int 0, .int 0])), (b + 245, .inl (cA 6, 6, .inr (.inr (.inr (.inr (va_up (va_up (va_up (va_up (va_up (va_up (fun _ => none) 0 (some (b + 246))) 1 (some (b + 247))) 2 (some (b + 248))) 3 (some (b + 249))) 4 (some (b + 250))) 5 (some (b + 251))))))))] ++ wI cA b ad (List.range' 246 6)) H := hP
  have hD : va_D (Ab (b + 244)) ([(b + 244, .inr (8, [.ref (b + 245), .int 0, .int 0, .int 0, .int 0])), (b + 245, .inl (cA 6, 6, .inr (.inr (.inr (.inr (va_up (va_up (va_up (va_up (va_up (va_up (fun _ => none) 0 (some (b + 246))) 1 (some (b + 247))) 2 (some (b + 248))) 3 (some (b + 249))) 4 (some (b + 250))) 5 (some (b + 251))))))))] ++ wI cA b ad (List.range' 246 6)) := hD
  refine kr_size (n := 252) (by omega) (by have h := P_lt (by decide) hP; omega) (fun hz => ?_)
  refine lv_iinc (v := 6) (lv' := [(1, .int 6), (0, .ref (b + 244))]) hx hb d_icVectorCache_34 hl (k := 0) rfl (by decide) (by decide) rfl (fun ls hl => ?_)
  refine lv_goto hx hb d_icVectorCache_37 (tgt := 15) (by decide) ?_
  refine lv_iload_n hx hb d_icVectorCache_15 rfl (lv_at hl 0 rfl) ?_
  refine lv_bipush (v := 6) hx hb d_icVectorCache_16 (by decide) ?_
  refine lv_icmp_ge hx hb d_icVectorCache_18 (tgt := 40) (by decide) (fun hc => ?_) (fun hc => ?_)
  rotate_left
  · exact absurd (by decide) hc
  have e0 : (b + 244, cS cA b ad Z0 244) = (b + 244, .inr (8, [.ref (b + 245), .int 0, .int 0, .int 0, .int 0])) := congrArg (Prod.mk (b + 244)) (rfl)
  have hP := P_swap (q := 1) (E' := cS cA b ad Z0 245) hP rfl (P_arr (az_21 rfl) (fun j hj => match j, hj with | 0, _ => (show some (b + 246) = _ from congrArg some (by omega)) | 1, _ => (show some (b + 247) = _ from congrArg some (by omega)) | 2, _ => (show some (b + 248) = _ from congrArg some (by omega)) | 3, _ => (show some (b + 249) = _ from congrArg some (by omega)) | 4, _ => (show some (b + 250) = _ from congrArg some (by omega)) | 5, _ => (show some (b + 251) = _ from congrArg some (by omega)) | (z + 6), h => absurd h (by omega)))
  have hP : va_P D kCl ([(b + 244, .inr (8, [.ref (b + 245), .int 0, .int 0, .int 0, .int 0])), (b + 245, cS cA b ad Z0 245)] ++ wI cA b ad (List.range' 246 6)) H := hP
  rw [← e0] at hP
  have hP : va_P D kCl (wI cA b ad (List.range' 244 2) ++ wI cA b ad (List.range' 246 6)) H := hP
  have hP : va_P D kCl (wI cA b ad (List.range' 244 8)) H := P_all hP (by omega)
  exact kr_ret hQ hx hb hr hP hS (by omega) (by decide) (by decide) hlk d_icVectorCache_40
