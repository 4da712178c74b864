theorem l_28 : (Jvm.Cond.instantiable "TypeGuard" (10 : Nat)) ∈ lw_tbl := List.mem_append_right _ (List.mem_append_left _ (List.mem_of_getElem? (i := 28) rfl))
theorem l_36 : (Jvm.Cond.instantiable "TypeGuard$Reader" (6 : Nat)) ∈ lw_tbl := List.mem_append_right _ (List.mem_append_left _ (List.mem_of_getElem? (i := 36) rfl))
theorem l_42 : (Jvm.Cond.instantiable "TypeGuard$Tokens" (5 : Nat)) ∈ lw_tbl := List.mem_append_right _ (List.mem_append_left _ (List.mem_of_getElem? (i := 42) rfl))
theorem l_67 : (Jvm.Cond.instantiable "TypeGuard$Policy" (9 : Nat)) ∈ lw_tbl := List.mem_append_right _ (List.mem_append_left _ (List.mem_of_getElem? (i := 67) rfl))
theorem l_73 : (Jvm.Cond.instantiable "TypeGuard$Names" (2 : Nat)) ∈ lw_tbl := List.mem_append_right _ (List.mem_append_left _ (List.mem_of_getElem? (i := 73) rfl))
theorem l_91 : (Jvm.Cond.instantiable "TypeGuard$Rule" (12 : Nat)) ∈ lw_tbl := List.mem_append_right _ (List.mem_append_left _ (List.mem_of_getElem? (i := 91) rfl))
theorem l_99 : (Jvm.Cond.instantiable "TypeGuard$TypeSet" (6 : Nat)) ∈ lw_tbl := List.mem_append_right _ (List.mem_append_left _ (List.mem_of_getElem? (i := 99) rfl))
theorem l_258 : (Jvm.Cond.instantiable "TypeGuard$Entry" (8 : Nat)) ∈ lw_tbl := List.mem_append_right _ (List.mem_append_right _ (List.mem_append_left _ (List.mem_of_getElem? (i := 18) rfl)))
theorem l_251 : (Jvm.Cond.instantiable "TypeGuard$VectorCache" (5 : Nat)) ∈ lw_tbl := List.mem_append_right _ (List.mem_append_right _ (List.mem_append_left _ (List.mem_of_getElem? (i := 11) rfl)))
theorem l_313 : (Jvm.Cond.instantiable "TypeGuard$NoteLog" (2 : Nat)) ∈ lw_tbl := List.mem_append_right _ (List.mem_append_right _ (List.mem_append_left _ (List.mem_of_getElem? (i := 73) rfl)))
theorem l_982 : (Jvm.Cond.instantiable "TypeGuardModel" (48 : Nat)) ∈ lw_tbl := List.mem_append_right _ (List.mem_append_right _ (List.mem_append_right _ (List.mem_append_right _ (List.mem_append_right _ (List.mem_append_left _ (List.mem_of_getElem? (i := 22) rfl))))))
theorem l_64 : (Jvm.Cond.arrayClass Jvm.ClassFile.FieldType.int) ∈ lw_tbl := List.mem_append_right _ (List.mem_append_left _ (List.mem_of_getElem? (i := 64) rfl))
theorem l_65 : (Jvm.Cond.arrayClass Jvm.ClassFile.FieldType.long) ∈ lw_tbl := List.mem_append_right _ (List.mem_append_left _ (List.mem_of_getElem? (i := 65) rfl))
theorem l_63 : (Jvm.Cond.arrayClass Jvm.ClassFile.FieldType.char) ∈ lw_tbl := List.mem_append_right _ (List.mem_append_left _ (List.mem_of_getElem? (i := 63) rfl))
theorem l_129 : (Jvm.Cond.arrayClass Jvm.ClassFile.FieldType.boolean) ∈ lw_tbl := List.mem_append_right _ (List.mem_append_left _ (List.mem_of_getElem? (i := 129) rfl))
theorem l_88 : (Jvm.Cond.arrayOver (Jvm.ClassFile.FieldType.object "TypeGuard$Names")) ∈ lw_tbl := List.mem_append_right _ (List.mem_append_left _ (List.mem_of_getElem? (i := 88) rfl))
theorem l_90 : (Jvm.Cond.arrayOver (Jvm.ClassFile.FieldType.object "TypeGuard$Rule")) ∈ lw_tbl := List.mem_append_right _ (List.mem_append_left _ (List.mem_of_getElem? (i := 90) rfl))
theorem l_257 : (Jvm.Cond.arrayOver (Jvm.ClassFile.FieldType.object "TypeGuard$Entry")) ∈ lw_tbl := List.mem_append_right _ (List.mem_append_right _ (List.mem_append_left _ (List.mem_of_getElem? (i := 17) rfl)))
theorem l_319 : (Jvm.Cond.arrayOver (Jvm.ClassFile.FieldType.array Jvm.ClassFile.FieldType.int)) ∈ lw_tbl := List.mem_append_right _ (List.mem_append_right _ (List.mem_append_left _ (List.mem_of_getElem? (i := 79) rfl)))
theorem l_786 : (Jvm.Cond.laysStatic "java/lang/Throwable" "UNASSIGNED_STACK" "[Ljava/lang/StackTraceElement;") ∈ lw_tbl := List.mem_append_right _ (List.mem_append_right _ (List.mem_append_right _ (List.mem_append_right _ (List.mem_append_left _ (List.mem_of_getElem? (i := 66) rfl)))))
theorem l_788 : (Jvm.Cond.laysStatic "java/lang/Throwable" "SUPPRESSED_SENTINEL" "Ljava/util/List;") ∈ lw_tbl := List.mem_append_right _ (List.mem_append_right _ (List.mem_append_right _ (List.mem_append_right _ (List.mem_append_left _ (List.mem_of_getElem? (i := 68) rfl)))))
theorem l_97 : (Jvm.Cond.laysStatic "TypeGuard$Word" "OTHER" "LTypeGuard$Word;") ∈ lw_tbl := List.mem_append_right _ (List.mem_append_left _ (List.mem_of_getElem? (i := 97) rfl))
theorem l_1397 : (Jvm.Cond.laysStatic "TypeGuard$Word" "CLASS" "LTypeGuard$Word;") ∈ lw_tbl := List.mem_append_right _ (List.mem_append_right _ (List.mem_append_right _ (List.mem_append_right _ (List.mem_append_right _ (List.mem_append_right _ (List.mem_of_getElem? (i := 197) rfl))))))
theorem l_1398 : (Jvm.Cond.laysStatic "TypeGuard$Word" "ATTRIBUTE" "LTypeGuard$Word;") ∈ lw_tbl := List.mem_append_right _ (List.mem_append_right _ (List.mem_append_right _ (List.mem_append_right _ (List.mem_append_right _ (List.mem_append_right _ (List.mem_of_getElem? (i := 198) rfl))))))
theorem l_1399 : (Jvm.Cond.laysStatic "TypeGuard$Word" "TYPE" "LTypeGuard$Word;") ∈ lw_tbl := List.mem_append_right _ (List.mem_append_right _ (List.mem_append_right _ (List.mem_append_right _ (List.mem_append_right _ (List.mem_append_right _ (List.mem_of_getElem? (i := 199) rfl))))))
theorem l_1400 : (Jvm.Cond.laysStatic "TypeGuard$Word" "BOOL" "LTypeGuard$Word;") ∈ lw_tbl := List.mem_append_right _ (List.mem_append_right _ (List.mem_append_right _ (List.mem_append_right _ (List.mem_append_right _ (List.mem_append_right _ (List.mem_of_getElem? (i := 200) rfl))))))
theorem l_566 : (Jvm.Cond.laysStatic "TypeGuard$Word" "ALLOW" "LTypeGuard$Word;") ∈ lw_tbl := List.mem_append_right _ (List.mem_append_right _ (List.mem_append_right _ (List.mem_append_left _ (List.mem_of_getElem? (i := 86) rfl))))
theorem l_568 : (Jvm.Cond.laysStatic "TypeGuard$Word" "AUDIT" "LTypeGuard$Word;") ∈ lw_tbl := List.mem_append_right _ (List.mem_append_right _ (List.mem_append_right _ (List.mem_append_left _ (List.mem_of_getElem? (i := 88) rfl))))
theorem l_570 : (Jvm.Cond.laysStatic "TypeGuard$Word" "HUSH" "LTypeGuard$Word;") ∈ lw_tbl := List.mem_append_right _ (List.mem_append_right _ (List.mem_append_right _ (List.mem_append_left _ (List.mem_of_getElem? (i := 90) rfl))))
theorem l_749 : (Jvm.Cond.laysStatic "TypeGuard$Word" "NEVER" "LTypeGuard$Word;") ∈ lw_tbl := List.mem_append_right _ (List.mem_append_right _ (List.mem_append_right _ (List.mem_append_right _ (List.mem_append_left _ (List.mem_of_getElem? (i := 29) rfl)))))
theorem l_629 : (Jvm.Cond.laysStatic "TypeGuard$Word" "MOVE" "LTypeGuard$Word;") ∈ lw_tbl := List.mem_append_right _ (List.mem_append_right _ (List.mem_append_right _ (List.mem_append_left _ (List.mem_of_getElem? (i := 149) rfl))))
theorem l_1401 : (Jvm.Cond.laysStatic "TypeGuard$Word" "IF" "LTypeGuard$Word;") ∈ lw_tbl := List.mem_append_right _ (List.mem_append_right _ (List.mem_append_right _ (List.mem_append_right _ (List.mem_append_right _ (List.mem_append_right _ (List.mem_of_getElem? (i := 201) rfl))))))
theorem l_666 : (Jvm.Cond.laysStatic "TypeGuard$Word" "ELSE" "LTypeGuard$Word;") ∈ lw_tbl := List.mem_append_right _ (List.mem_append_right _ (List.mem_append_right _ (List.mem_append_left _ (List.mem_of_getElem? (i := 186) rfl))))
theorem l_706 : (Jvm.Cond.laysStatic "TypeGuard$Word" "TRUE" "LTypeGuard$Word;") ∈ lw_tbl := List.mem_append_right _ (List.mem_append_right _ (List.mem_append_right _ (List.mem_append_left _ (List.mem_of_getElem? (i := 226) rfl))))
theorem l_708 : (Jvm.Cond.laysStatic "TypeGuard$Word" "FALSE" "LTypeGuard$Word;") ∈ lw_tbl := List.mem_append_right _ (List.mem_append_right _ (List.mem_append_right _ (List.mem_append_left _ (List.mem_of_getElem? (i := 228) rfl))))
theorem l_619 : (Jvm.Cond.laysStatic "TypeGuard$Word" "SELF" "LTypeGuard$Word;") ∈ lw_tbl := List.mem_append_right _ (List.mem_append_right _ (List.mem_append_right _ (List.mem_append_left _ (List.mem_of_getElem? (i := 139) rfl))))
theorem l_8 : (Jvm.Cond.initialized "TypeGuard$Word") ∈ lw_tbl := List.mem_append_right _ (List.mem_append_left _ (List.mem_of_getElem? (i := 8) rfl))
theorem l_563 : (Jvm.Cond.laysStatic "TypeGuard$Word" "ALL" "[LTypeGuard$Word;") ∈ lw_tbl := List.mem_append_right _ (List.mem_append_right _ (List.mem_append_right _ (List.mem_append_left _ (List.mem_of_getElem? (i := 83) rfl))))
theorem l_668 : (Jvm.Cond.laysStatic "TypeGuard$1" "$SwitchMap$TypeGuard$Word" "[I") ∈ lw_tbl := List.mem_append_right _ (List.mem_append_right _ (List.mem_append_right _ (List.mem_append_left _ (List.mem_of_getElem? (i := 188) rfl))))
theorem l_466 : (Jvm.Cond.laysStatic "java/lang/String" "COMPACT_STRINGS" "Z") ∈ lw_tbl := List.mem_append_right _ (List.mem_append_right _ (List.mem_append_left _ (List.mem_of_getElem? (i := 226) rfl)))
theorem l_20 : (Jvm.Cond.initialized "TypeGuard$1") ∈ lw_tbl := List.mem_append_right _ (List.mem_append_left _ (List.mem_of_getElem? (i := 20) rfl))
theorem l_21 : (Jvm.Cond.initialized "java/lang/Throwable") ∈ lw_tbl := List.mem_append_right _ (List.mem_append_left _ (List.mem_of_getElem? (i := 21) rfl))
theorem l_14 : (Jvm.Cond.initialized "java/lang/String") ∈ lw_tbl := List.mem_append_right _ (List.mem_append_left _ (List.mem_of_getElem? (i := 14) rfl))
theorem l_452 : (Jvm.Cond.stringRef "TypeGuard$Tokens" (65 : Nat) "{}:;,~*-") ∈ lw_tbl := List.mem_append_right _ (List.mem_append_right _ (List.mem_append_left _ (List.mem_of_getElem? (i := 212) rfl)))
section STF
variable {s : State} {sb : Nat} {args : Array Value}
theorem ao_RA {C : String} (h : (Cond.arrayOver (.object C)).before args s = true) : ∃ c : ClassId, ArrOfT s c (.object C) ∧ va_RA s c (.object C) := by
  obtain ⟨comp, c, k, h1, h2, h3, h4, h5⟩ := Cond.arrayOver_spec h
  exact ⟨c, fun n z => ⟨fun q hq => (by cases hq), k, h3, comp, h4⟩, k, comp, h3, h4, h1, h5⟩
theorem ac_RA {ty : FieldType} (h : (Cond.arrayClass ty).before args s = true) : ∃ c : ClassId, ArrOfT s c ty ∧ s.vm.findClass ("[" ++ ty.toString) = some c := by
  obtain ⟨c, k, comp, h1, h2, h3⟩ := Cond.arrayClass_spec h
  exact ⟨c, fun n z => ⟨fun q hq => (by cases hq), k, h2, comp, h3⟩, h1⟩
theorem aa_RA (h : (Cond.arrayOver (.array .int)).before args s = true) : ∃ c : ClassId, ArrOfT s c (.array .int) ∧ va_RA s c (.array .int) := by
  obtain ⟨comp, c, k, h1, h2, h3, h4, h5⟩ := arrayOverA_spec h
  exact ⟨c, fun n z => ⟨fun q hq => (by cases hq), k, h3, comp, h4⟩, h5⟩
theorem sf_K (hts : ∀ w ∈ TW, w.before args s = true) (hlt : ∀ w ∈ lw_tbl, w.before args s = true) : ∃ (D : va_G) (cA : Nat → ClassId), va_K D kCl (tyL cA) s := by
  have hk : ∀ q ∈ kCl, ∃ (cC : ClassId) (iS : Nat → Nat), u_Kn s q.1 q.2.1 q.2.2 cC iS := List.forall_mem_cons.mpr ⟨u_known (n := 10) hts in_c0 (hlt _ l_28), List.forall_mem_cons.mpr ⟨u_known (n := 6) hts in_c2 (hlt _ l_36), List.forall_mem_cons.mpr ⟨u_known (n := 5) hts in_c3 (hlt _ l_42), List.forall_mem_cons.mpr ⟨u_known (n := 9) hts in_c7 (hlt _ l_67), List.forall_mem_cons.mpr ⟨u_known (n := 2) hts in_c8 (hlt _ l_73), List.forall_mem_cons.mpr ⟨u_known (n := 12) hts in_c14 (hlt _ l_91), List.forall_mem_cons.mpr ⟨u_known (n := 6) hts in_c15 (hlt _ l_99), List.forall_mem_cons.mpr ⟨u_known (n := 8) hts in_c22 (hlt _ l_258), List.forall_mem_cons.mpr ⟨u_known (n := 5) hts in_c20 (hlt _ l_251), List.forall_mem_cons.mpr ⟨u_known (n := 2) hts in_c23 (hlt _ l_313), List.forall_mem_cons.mpr ⟨u_known (n := 48) hts in_m0 (hlt _ l_982), fun q hq => (List.not_mem_nil hq).elim⟩⟩⟩⟩⟩⟩⟩⟩⟩⟩⟩
  have hk2 : ∀ i : Nat, ∃ (x : ClassId × (Nat → Nat)), ∀ q, kCl[i]? = some q → u_Kn s q.1 q.2.1 q.2.2 x.1 x.2 := by
    intro i
    cases hi : kCl[i]? with
    | none => exact ⟨(0, fun _ => 0), fun q hq => by cases hq⟩
    | some q =>
      obtain ⟨cC, iS, h⟩ := hk q (List.mem_of_getElem? hi)
      exact ⟨(cC, iS), fun q' hq => by cases hq; exact h⟩
  obtain ⟨c0, a0, b0⟩ := ac_RA (ty := .int) (hlt _ l_64)
  obtain ⟨c1, a1, b1⟩ := ac_RA (ty := .long) (hlt _ l_65)
  obtain ⟨c2, a2, b2⟩ := ac_RA (ty := .char) (hlt _ l_63)
  obtain ⟨c3, a3, b3⟩ := ac_RA (ty := .boolean) (hlt _ l_129)
  obtain ⟨c4, a4, b4⟩ := ao_RA (C := "TypeGuard$Names") (hlt _ l_88)
  obtain ⟨c5, a5, b5⟩ := ao_RA (C := "TypeGuard$Rule") (hlt _ l_90)
  obtain ⟨c6, a6, b6⟩ := ao_RA (C := "TypeGuard$Entry") (hlt _ l_257)
  obtain ⟨c7, a7, b7⟩ := aa_RA (hlt _ l_319)
  refine ⟨(fun i => (Classical.choose (hk2 i)).1, fun i => (Classical.choose (hk2 i)).2), fun i => [c0, c1, c2, c3, c4, c5, c6, c7].getD i 0, fun c q hq => Classical.choose_spec (hk2 c) q hq, fun k q hq => ?_⟩
  have hall : ∀ q ∈ tyL (fun i => [c0, c1, c2, c3, c4, c5, c6, c7].getD i 0), ArrOfT s q.1 q.2 ∧ va_RA s q.1 q.2 := List.forall_mem_cons.mpr ⟨⟨a0, b0⟩, List.forall_mem_cons.mpr ⟨⟨a1, b1⟩, List.forall_mem_cons.mpr ⟨⟨a2, b2⟩, List.forall_mem_cons.mpr ⟨⟨a3, b3⟩, List.forall_mem_cons.mpr ⟨⟨a4, b4⟩, List.forall_mem_cons.mpr ⟨⟨a5, b5⟩, List.forall_mem_cons.mpr ⟨⟨a6, b6⟩, List.forall_mem_cons.mpr ⟨⟨a7, b7⟩, fun q hq => (List.not_mem_nil hq).elim⟩⟩⟩⟩⟩⟩⟩⟩
  exact hall q (List.mem_of_getElem? hq)
theorem sf_Ca (hlt : ∀ w ∈ lw_tbl, w.before args s = true) : Ca s := ⟨va_AO.of (hlt _ l_88), va_AO.of (hlt _ l_90), va_AO.of (hlt _ l_257), va_AA.of (hlt _ l_319)⟩
theorem out_A : ∀ a : Nat, a < s.heap.size → ¬ Ab s.heap.size a := fun _ h h2 => absurd h (Nat.not_lt.mpr h2)
theorem sf_Cy (hlt : ∀ w ∈ lw_tbl, w.before args s = true) (hgv : ∀ w ∈ flatC (Jvm.Cond.and given_1 narrow_1), w.before args s = true) : Cy s.heap.size s := by
  refine ⟨fun w hw => ?_, Lz.of (hlt _ l_786) out_A, Lz.of (hlt _ l_788) out_A, va_Nc.of (hgv _ (List.mem_of_getElem? (i := 226) (by decide +kernel)))⟩
  have hn := (List.mem_filter.mp hw).2
  have hb := hlt w (List.mem_filter.mp hw).1
  cases w <;> first | exact va_tabs rfl rfl hb | exact absurd hn Bool.false_ne_true
theorem m_ls : ∀ i, i < 15 → Cond.laysStatic "TypeGuard$Word" (wnL.getD i "") "LTypeGuard$Word;" ∈ lw_tbl := fun i hi => match i, hi with | 0, _ => l_97 | 1, _ => l_1397 | 2, _ => l_1398 | 3, _ => l_1399 | 4, _ => l_1400 | 5, _ => l_566 | 6, _ => l_568 | 7, _ => l_570 | 8, _ => l_749 | 9, _ => l_629 | 10, _ => l_1401 | 11, _ => l_666 | 12, _ => l_706 | 13, _ => l_708 | 14, _ => l_619 | (z + 15), h => absurd h (by omega)
def ixE : List Nat := [4, 124, 137, 151, 166, 32, 36, 41, 110, 54, 182, 62, 89, 99, 47]
theorem m_ex' : ∀ i, i < 15 → (flatC (Jvm.Cond.and given_1 narrow_1))[ixE.getD i 0]? = some (Cond.exactly (.static "TypeGuard$Word" (wnL.getD i "") "LTypeGuard$Word;") "TypeGuard$Word") := by decide +kernel
theorem m_ex : ∀ i, i < 15 → Cond.exactly (.static "TypeGuard$Word" (wnL.getD i "") "LTypeGuard$Word;") "TypeGuard$Word" ∈ flatC (Jvm.Cond.and given_1 narrow_1) := fun i h => List.mem_of_getElem? (m_ex' i h)
def ixO : List Nat := [5, 125, 138, 152, 167, 33, 37, 42, 111, 55, 183, 63, 90, 100, 48]
theorem m_or' : ∀ i, i < 15 → (flatC (Jvm.Cond.and given_1 narrow_1))[ixO.getD i 0]? = some (Cond.eq (.field (.static "TypeGuard$Word" (wnL.getD i "") "LTypeGuard$Word;") "java/lang/Enum" "ordinal" "I") (.int (orL.getD i 0))) := by decide +kernel
theorem m_or : ∀ i, i < 15 → Cond.eq (.field (.static "TypeGuard$Word" (wnL.getD i "") "LTypeGuard$Word;") "java/lang/Enum" "ordinal" "I") (.int (orL.getD i 0)) ∈ flatC (Jvm.Cond.and given_1 narrow_1) := fun i h => List.mem_of_getElem? (m_or' i h)
def ixC : List Nat := [6, 126, 139, 153, 168, 34, 38, 43, 112, 56, 184, 64, 91, 101, 49]
theorem m_co' : ∀ i, i < 15 → (flatC (Jvm.Cond.and given_1 narrow_1))[ixC.getD i 0]? = some (Cond.eq (.field (.static "TypeGuard$Word" (wnL.getD i "") "LTypeGuard$Word;") "TypeGuard$Word" "code" "J") (.long (wC i))) := by decide +kernel
theorem m_co : ∀ i, i < 15 → Cond.eq (.field (.static "TypeGuard$Word" (wnL.getD i "") "LTypeGuard$Word;") "TypeGuard$Word" "code" "J") (.long (wC i)) ∈ flatC (Jvm.Cond.and given_1 narrow_1) := fun i h => List.mem_of_getElem? (m_co' i h)
def ixN : List Nat := [0, 127, 140, 154, 169, 35, 39, 44, 113, 57, 185, 65, 92, 102, 50, 127, 0, 150, 164, 179, 128, 129, 130, 136, 132, 195, 133, 134, 135, 131, 140, 150, 0, 165, 180, 141, 142, 143, 149, 145, 196, 146, 147, 148, 144, 154, 164, 165, 0, 181, 155, 156, 157, 163, 159, 197, 160, 161, 162, 158, 169, 179, 180, 181, 0, 170, 171, 172, 178, 174, 198, 175, 176, 177, 173, 35, 128, 141, 155, 170, 0, 40, 45, 114, 58, 186, 66, 93, 103, 51, 39, 129, 142, 156, 171, 40, 0, 46, 115, 59, 187, 67, 94, 104, 52, 44, 130, 143, 157, 172, 45, 46, 0, 116, 60, 188, 68, 95, 105, 53, 113, 136, 149, 163, 178, 114, 115, 116, 0, 118, 194, 119, 120, 121, 117, 57, 132, 145, 159, 174, 58, 59, 60, 118, 0, 190, 70, 97, 107, 61, 185, 195, 196, 197, 198, 186, 187, 188, 194, 190, 0, 191, 192, 193, 189, 65, 133, 146, 160, 175, 66, 67, 68, 119, 70, 191, 0, 98, 108, 69, 92, 134, 147, 161, 176, 93, 94, 95, 120, 97, 192, 98, 0, 109, 96, 102, 135, 148, 162, 177, 103, 104, 105, 121, 107, 193, 108, 109, 0, 106, 50, 131, 144, 158, 173, 51, 52, 53, 117, 61, 189, 69, 96, 106, 0]
theorem m_ne' : ∀ i, i < 15 → ∀ j, j < 15 → i ≠ j → ((flatC (Jvm.Cond.and given_1 narrow_1))[ixN.getD (15 * i + j) 0]? = some (Cond.not (.eq (.static "TypeGuard$Word" (wnL.getD i "") "LTypeGuard$Word;") (.static "TypeGuard$Word" (wnL.getD j "") "LTypeGuard$Word;")))) ∨ ((flatC (Jvm.Cond.and given_1 narrow_1))[ixN.getD (15 * i + j) 0]? = some (Cond.not (.eq (.static "TypeGuard$Word" (wnL.getD j "") "LTypeGuard$Word;") (.static "TypeGuard$Word" (wnL.getD i "") "LTypeGuard$Word;")))) := by decide +kernel
theorem m_ne : ∀ i, i < 15 → ∀ j, j < 15 → i ≠ j → (Cond.not (.eq (.static "TypeGuard$Word" (wnL.getD i "") "LTypeGuard$Word;") (.static "TypeGuard$Word" (wnL.getD j "") "LTypeGuard$Word;")) ∈ flatC (Jvm.Cond.and given_1 narrow_1)) ∨ (Cond.not (.eq (.static "TypeGuard$Word" (wnL.getD j "") "LTypeGuard$Word;") (.static "TypeGuard$Word" (wnL.getD i "") "LTypeGuard$Word;")) ∈ flatC (Jvm.Cond.and given_1 narrow_1)) := fun i hi j hj h => (m_ne' i hi j hj h).imp List.mem_of_getElem? List.mem_of_getElem?
def ixA : List Nat := [17, 18, 19, 20, 21, 22, 23, 24, 25, 26, 27, 28, 29, 30, 31]
theorem m_al' : ∀ i, i < 15 → (flatC (Jvm.Cond.and given_1 narrow_1))[ixA.getD i 0]? = some (Cond.eq (.elem (.static "TypeGuard$Word" "ALL" "[LTypeGuard$Word;") (.int (Int32.ofNat i))) (.static "TypeGuard$Word" (wnL.getD i "") "LTypeGuard$Word;")) := by decide +kernel
theorem m_al : ∀ i, i < 15 → Cond.eq (.elem (.static "TypeGuard$Word" "ALL" "[LTypeGuard$Word;") (.int (Int32.ofNat i))) (.static "TypeGuard$Word" (wnL.getD i "") "LTypeGuard$Word;") ∈ flatC (Jvm.Cond.and given_1 narrow_1) := fun i h => List.mem_of_getElem? (m_al' i h)
def ixS : List Nat := [74, 75, 76, 77, 78, 79, 80, 81, 82, 83, 84, 85, 86, 87, 88]
theorem m_sw' : ∀ i, i < 15 → (flatC (Jvm.Cond.and given_1 narrow_1))[ixS.getD i 0]? = some (Cond.eq (.elem (.static "TypeGuard$1" "$SwitchMap$TypeGuard$Word" "[I") (.int (Int32.ofNat i))) (.int (swL.getD i 0))) := by decide +kernel
theorem m_sw : ∀ i, i < 15 → Cond.eq (.elem (.static "TypeGuard$1" "$SwitchMap$TypeGuard$Word" "[I") (.int (Int32.ofNat i))) (.int (swL.getD i 0)) ∈ flatC (Jvm.Cond.and given_1 narrow_1) := fun i h => List.mem_of_getElem? (m_sw' i h)
def ixB : List Nat := [245, 246, 247, 248, 249, 250, 251, 252]
theorem m_by' : ∀ j, j < 8 → (flatC (Jvm.Cond.and given_1 narrow_1))[ixB.getD j 0]? = some (Cond.eq (.elem (.field (.string "TypeGuard$Tokens" 65) "java/lang/String" "value" "[B") (.int (Int32.ofNat j))) (.int (([123, 125, 58, 59, 44, 126, 42, 45] : List Int32).getD j 0))) := by decide +kernel
theorem m_by : ∀ j, j < 8 → Cond.eq (.elem (.field (.string "TypeGuard$Tokens" 65) "java/lang/String" "value" "[B") (.int (Int32.ofNat j))) (.int (([123, 125, 58, 59, 44, 126, 42, 45] : List Int32).getD j 0)) ∈ flatC (Jvm.Cond.and given_1 narrow_1) := fun j h => List.mem_of_getElem? (m_by' j h)
theorem sf_S (hlt : ∀ w ∈ lw_tbl, w.before args s = true) (hgv : ∀ w ∈ flatC (Jvm.Cond.and given_1 narrow_1), w.before args s = true) : ∃ ad : Nat → Nat, (∀ i j, i < 15 → j < 15 → ad i = ad j → i = j) ∧ Sx s.heap.size ad s s.heap ∧ vk_R "TypeGuard$Tokens" 65 "{}:;,~*-" (ad 17) s := by
  obtain ⟨a0, hEn, hev⟩ := va_Enof2 (args := args) (s := s) (E := "TypeGuard$Word") (d := "LTypeGuard$Word;") (nm := wnL) (F := [("java/lang/Enum", "ordinal", "I", orL)]) (A := Ab s.heap.size) (fun i hi => hlt _ (m_ls i hi)) (hlt _ l_8) (fun i hi => hgv _ (m_ex i hi)) (fun q hq i hi => by rw [List.mem_singleton.mp hq]; exact hgv _ (m_or i hi)) (fun i j hi hj hij => (m_ne i hi j hj hij).imp (hgv _) (hgv _)) out_A
  have hev : ∀ i, i < 15 → (Term.static "TypeGuard$Word" (wnL.getD i "") "LTypeGuard$Word;").eval args s none [] s = some (.ref (a0 i)) := hev
  obtain ⟨t15, e15, h15⟩ := va_Tof (args := args) (s := s) (tm := .static "TypeGuard$Word" "ALL" "[LTypeGuard$Word;") (ty := .object "TypeGuard$Word") (N := 15) (f := fun i => .ref (a0 i)) (A := Ab s.heap.size) (by decide) (hgv _ (List.mem_of_getElem? (i := 14) (by decide +kernel))) (va_eqv (u := .int 15) (hgv _ (List.mem_of_getElem? (i := 15) (by decide +kernel))) rfl) (fun j hj => va_eqv (hgv _ (m_al j hj)) (hev j hj)) out_A
  obtain ⟨t16, e16, h16⟩ := va_Tof (args := args) (s := s) (tm := .static "TypeGuard$1" "$SwitchMap$TypeGuard$Word" "[I") (ty := .int) (N := 15) (f := fun i => .int (swL.getD i 0)) (A := Ab s.heap.size) (by decide) (hgv _ (List.mem_of_getElem? (i := 72) (by decide +kernel))) (va_eqv (u := .int 15) (hgv _ (List.mem_of_getElem? (i := 73) (by decide +kernel))) rfl) (fun j hj => va_eqv (u := .int (swL.getD j 0)) (hgv _ (m_sw j hj)) rfl) out_A
  have hEf := va_Efof (args := args) (s := s) (N := 15) (E := "TypeGuard$Word") (d0 := "LTypeGuard$Word;") (o := "TypeGuard$Word") (n := "code") (d := "J") (nm := wnL) (v := fun i => .long (wC i)) (tm := fun i => .long (wC i)) (ad := a0) (A := Ab s.heap.size) hev (fun i hi => hgv _ (m_co i hi)) (fun i hi => rfl) out_A
  obtain ⟨aK, aV, hSt, hsv⟩ := vk_Sof (args := args) (s := s) (N := 1) (tm := fun _ => .string "TypeGuard$Tokens" 65) (len := [8]) (byt := [[123, 125, 58, 59, 44, 126, 42, 45]]) (A := Ab s.heap.size) (fun i hi => by rw [show i = 0 by omega]; decide) (fun i hi => hgv _ (List.mem_of_getElem? (i := 241) (by decide +kernel))) (fun i hi => hgv _ (List.mem_of_getElem? (i := 242) (by decide +kernel))) (fun i hi => hgv _ (List.mem_of_getElem? (i := 243) (by decide +kernel))) (fun i hi => by rw [show i = 0 by omega]; exact hgv _ (List.mem_of_getElem? (i := 244) (by decide +kernel))) (fun i hi j hj => by
    rw [show i = 0 by omega] at hj ⊢
    exact hgv _ (m_by j hj)) (fun i j hi hj hij => by omega) out_A
  have z15 := va_Zof (A := Ab s.heap.size) (hlt _ l_563) (hlt _ l_8) e15 out_A
  have z16 := va_Zof (A := Ab s.heap.size) (hlt _ l_668) (hlt _ l_20) e16 out_A
  have zq1 := va_Zqof (A := Ab s.heap.size) (hlt _ l_786) (hlt _ l_21) (hgv _ (List.mem_of_getElem? (i := 122) (by decide +kernel))) out_A
  have zq2 := va_Zqof (A := Ab s.heap.size) (hlt _ l_788) (hlt _ l_21) (hgv _ (List.mem_of_getElem? (i := 123) (by decide +kernel))) out_A
  have zc := va_Zof (A := Ab s.heap.size) (v := .int 1) (hlt _ l_466) (hlt _ l_14) (va_eqv (u := .int 1) (hgv _ (List.mem_of_getElem? (i := 7) (by decide +kernel))) rfl) out_A
  have had : ∃ ad : Nat → Nat, (∀ i, i < 15 → ad i = a0 i) ∧ ad 15 = t15 ∧ ad 16 = t16 ∧ ad 17 = aK 0 ∧ ad 18 = aV 0 := ⟨fun i => if i < 15 then a0 i else if i = 15 then t15 else if i = 16 then t16 else if i = 17 then aK 0 else aV 0, fun i hi => if_pos hi, rfl, rfl, rfl, rfl⟩
  obtain ⟨ad, d0, d15, d16, d17, d18⟩ := had
  refine ⟨ad, fun i j hi hj h => ?_, ⟨⟨fun i hi => ?_, fun i j hi hj h => ?_⟩, fun i hi => ?_, ?_, ?_, ?_, ?_, zq1, zq2, zc, ?_⟩, vk_R.of (hlt _ l_452) ?_⟩
  · rw [d0 i hi, d0 j hj] at h
    exact hEn.2 i j hi hj h
  · have hi' : i < 15 := hi
    rw [d0 i hi']
    exact hEn.1 i hi
  · have hi' : i < 15 := hi
    have hj' : j < 15 := hj
    rw [d0 i hi', d0 j hj'] at h
    exact hEn.2 i j hi hj h
  · rw [d0 i hi]
    exact hEf i hi
  · rw [d15]
    exact z15
  · rw [d15]
    obtain ⟨cell, q1, q2, q3, q4, q5, q6, q7⟩ := h15
    exact ⟨cell, q1, q2, q3, q4, q5, fun j hj => by show _ = some (Value.ref (ad j)); rw [d0 j hj]; exact q6 j hj, q7⟩
  · rw [d16]
    exact z16
  · rw [d16]
    exact h16
  · rw [d17, d18]
    exact ⟨fun i hi => by rw [show i = 0 by omega]; exact hSt.1 0 (by omega), fun i j hi hj _ => by omega⟩
  · rw [d17]
    exact hsv 0 (by omega)
theorem sf_Cx (hlt : ∀ w ∈ lw_tbl, w.before args s = true) (hgv : ∀ w ∈ flatC (Jvm.Cond.and given_1 narrow_1), w.before args s = true) : ∃ (D : va_G) (cA : Nat → ClassId) (ad : Nat → Nat), Cx D cA s.heap.size ad s := by
  have hts : ∀ w ∈ TW, w.before args s = true := fun w hw => hlt w (List.mem_filter.mp hw).1
  obtain ⟨D, cA, hK⟩ := sf_K hts hlt
  obtain ⟨ad, h1, h2, h3⟩ := sf_S hlt hgv
  refine ⟨D, cA, ad, hK, fun w hw => ?_, h1, h2, h3⟩
  have hn := (List.mem_filter.mp hw).2
  have hb := hlt w (List.mem_filter.mp hw).1
  cases w <;> first | exact va_Nw.of rfl hb | exact absurd hn Bool.false_ne_true
end STF
