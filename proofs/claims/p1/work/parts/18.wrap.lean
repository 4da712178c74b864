theorem t_422 : (Jvm.Cond.classLink "TypeGuardLaw" (13 : Nat) "java/lang/IllegalArgumentException") ∈ TW := List.mem_filter.mpr ⟨List.mem_append_right _ (List.mem_append_right _ (List.mem_append_left _ (List.mem_of_getElem? (i := 182) rfl))), rfl⟩
theorem t_423 : (Jvm.Cond.methodLink "TypeGuardLaw" (7 : Nat) ({ cls := "TypeGuard", name := "load", desc := "()I" } : Jvm.MethodName)) ∈ TW := List.mem_filter.mpr ⟨List.mem_append_right _ (List.mem_append_right _ (List.mem_append_left _ (List.mem_of_getElem? (i := 183) rfl))), rfl⟩
theorem t_424 : (Jvm.Cond.instanceMethod ({ cls := "TypeGuard", name := "load", desc := "()I" } : Jvm.MethodName)) ∈ TW := List.mem_filter.mpr ⟨List.mem_append_right _ (List.mem_append_right _ (List.mem_append_left _ (List.mem_of_getElem? (i := 184) rfl))), rfl⟩
theorem t_425 : (Jvm.Cond.selects "TypeGuard" ({ cls := "TypeGuard", name := "load", desc := "()I" } : Jvm.MethodName) ({ cls := "TypeGuard", name := "load", desc := "()I" } : Jvm.MethodName)) ∈ TW := List.mem_filter.mpr ⟨List.mem_append_right _ (List.mem_append_right _ (List.mem_append_left _ (List.mem_of_getElem? (i := 185) rfl))), rfl⟩
theorem t_426 : (Jvm.Cond.code ({ cls := "TypeGuard", name := "load", desc := "()I" } : Jvm.MethodName) prog_1_method_3_code (2 : Nat) (Option.some Jvm.ClassFile.FieldType.int)) ∈ TW := List.mem_filter.mpr ⟨List.mem_append_right _ (List.mem_append_right _ (List.mem_append_left _ (List.mem_of_getElem? (i := 186) rfl))), rfl⟩
theorem t_830 : (Jvm.Cond.classLink "TypeGuardLaw" (19 : Nat) "java/util/NoSuchElementException") ∈ TW := List.mem_filter.mpr ⟨List.mem_append_right _ (List.mem_append_right _ (List.mem_append_right _ (List.mem_append_right _ (List.mem_append_left _ (List.mem_of_getElem? (i := 110) rfl))))), rfl⟩
theorem t_831 : (Jvm.Cond.methodLink "TypeGuardLaw" (15 : Nat) ({ cls := "TypeGuard", name := "flip", desc := "(IZ)Z" } : Jvm.MethodName)) ∈ TW := List.mem_filter.mpr ⟨List.mem_append_right _ (List.mem_append_right _ (List.mem_append_right _ (List.mem_append_right _ (List.mem_append_left _ (List.mem_of_getElem? (i := 111) rfl))))), rfl⟩
theorem t_832 : (Jvm.Cond.instanceMethod ({ cls := "TypeGuard", name := "flip", desc := "(IZ)Z" } : Jvm.MethodName)) ∈ TW := List.mem_filter.mpr ⟨List.mem_append_right _ (List.mem_append_right _ (List.mem_append_right _ (List.mem_append_right _ (List.mem_append_left _ (List.mem_of_getElem? (i := 112) rfl))))), rfl⟩
theorem t_833 : (Jvm.Cond.selects "TypeGuard" ({ cls := "TypeGuard", name := "flip", desc := "(IZ)Z" } : Jvm.MethodName) ({ cls := "TypeGuard", name := "flip", desc := "(IZ)Z" } : Jvm.MethodName)) ∈ TW := List.mem_filter.mpr ⟨List.mem_append_right _ (List.mem_append_right _ (List.mem_append_right _ (List.mem_append_right _ (List.mem_append_left _ (List.mem_of_getElem? (i := 113) rfl))))), rfl⟩
theorem t_834 : (Jvm.Cond.code ({ cls := "TypeGuard", name := "flip", desc := "(IZ)Z" } : Jvm.MethodName) prog_1_method_6_code (4 : Nat) (Option.some Jvm.ClassFile.FieldType.boolean)) ∈ TW := List.mem_filter.mpr ⟨List.mem_append_right _ (List.mem_append_right _ (List.mem_append_right _ (List.mem_append_right _ (List.mem_append_left _ (List.mem_of_getElem? (i := 114) rfl))))), rfl⟩
theorem t_857 : (Jvm.Cond.methodLink "TypeGuardLaw" (21 : Nat) ({ cls := "TypeGuard", name := "vector", desc := "(IIII)I" } : Jvm.MethodName)) ∈ TW := List.mem_filter.mpr ⟨List.mem_append_right _ (List.mem_append_right _ (List.mem_append_right _ (List.mem_append_right _ (List.mem_append_left _ (List.mem_of_getElem? (i := 137) rfl))))), rfl⟩
theorem t_858 : (Jvm.Cond.instanceMethod ({ cls := "TypeGuard", name := "vector", desc := "(IIII)I" } : Jvm.MethodName)) ∈ TW := List.mem_filter.mpr ⟨List.mem_append_right _ (List.mem_append_right _ (List.mem_append_right _ (List.mem_append_right _ (List.mem_append_left _ (List.mem_of_getElem? (i := 138) rfl))))), rfl⟩
theorem t_859 : (Jvm.Cond.selects "TypeGuard" ({ cls := "TypeGuard", name := "vector", desc := "(IIII)I" } : Jvm.MethodName) ({ cls := "TypeGuard", name := "vector", desc := "(IIII)I" } : Jvm.MethodName)) ∈ TW := List.mem_filter.mpr ⟨List.mem_append_right _ (List.mem_append_right _ (List.mem_append_right _ (List.mem_append_right _ (List.mem_append_left _ (List.mem_of_getElem? (i := 139) rfl))))), rfl⟩
theorem t_860 : (Jvm.Cond.code ({ cls := "TypeGuard", name := "vector", desc := "(IIII)I" } : Jvm.MethodName) prog_1_method_7_code (5 : Nat) (Option.some Jvm.ClassFile.FieldType.int)) ∈ TW := List.mem_filter.mpr ⟨List.mem_append_right _ (List.mem_append_right _ (List.mem_append_right _ (List.mem_append_right _ (List.mem_append_left _ (List.mem_of_getElem? (i := 140) rfl))))), rfl⟩
theorem t_884 : (Jvm.Cond.methodLink "TypeGuardLaw" (25 : Nat) ({ cls := "TypeGuard", name := "why", desc := "(IIII)I" } : Jvm.MethodName)) ∈ TW := List.mem_filter.mpr ⟨List.mem_append_right _ (List.mem_append_right _ (List.mem_append_right _ (List.mem_append_right _ (List.mem_append_left _ (List.mem_of_getElem? (i := 164) rfl))))), rfl⟩
theorem t_885 : (Jvm.Cond.instanceMethod ({ cls := "TypeGuard", name := "why", desc := "(IIII)I" } : Jvm.MethodName)) ∈ TW := List.mem_filter.mpr ⟨List.mem_append_right _ (List.mem_append_right _ (List.mem_append_right _ (List.mem_append_right _ (List.mem_append_left _ (List.mem_of_getElem? (i := 165) rfl))))), rfl⟩
theorem t_886 : (Jvm.Cond.selects "TypeGuard" ({ cls := "TypeGuard", name := "why", desc := "(IIII)I" } : Jvm.MethodName) ({ cls := "TypeGuard", name := "why", desc := "(IIII)I" } : Jvm.MethodName)) ∈ TW := List.mem_filter.mpr ⟨List.mem_append_right _ (List.mem_append_right _ (List.mem_append_right _ (List.mem_append_right _ (List.mem_append_left _ (List.mem_of_getElem? (i := 166) rfl))))), rfl⟩
theorem t_887 : (Jvm.Cond.code ({ cls := "TypeGuard", name := "why", desc := "(IIII)I" } : Jvm.MethodName) prog_1_method_8_code (5 : Nat) (Option.some Jvm.ClassFile.FieldType.int)) ∈ TW := List.mem_filter.mpr ⟨List.mem_append_right _ (List.mem_append_right _ (List.mem_append_right _ (List.mem_append_right _ (List.mem_append_left _ (List.mem_of_getElem? (i := 167) rfl))))), rfl⟩
theorem t_895 : (Jvm.Cond.methodLink "TypeGuardLaw" (28 : Nat) ({ cls := "TypeGuard", name := "enter", desc := "(II)V" } : Jvm.MethodName)) ∈ TW := List.mem_filter.mpr ⟨List.mem_append_right _ (List.mem_append_right _ (List.mem_append_right _ (List.mem_append_right _ (List.mem_append_left _ (List.mem_of_getElem? (i := 175) rfl))))), rfl⟩
theorem t_896 : (Jvm.Cond.instanceMethod ({ cls := "TypeGuard", name := "enter", desc := "(II)V" } : Jvm.MethodName)) ∈ TW := List.mem_filter.mpr ⟨List.mem_append_right _ (List.mem_append_right _ (List.mem_append_right _ (List.mem_append_right _ (List.mem_append_left _ (List.mem_of_getElem? (i := 176) rfl))))), rfl⟩
theorem t_897 : (Jvm.Cond.selects "TypeGuard" ({ cls := "TypeGuard", name := "enter", desc := "(II)V" } : Jvm.MethodName) ({ cls := "TypeGuard", name := "enter", desc := "(II)V" } : Jvm.MethodName)) ∈ TW := List.mem_filter.mpr ⟨List.mem_append_right _ (List.mem_append_right _ (List.mem_append_right _ (List.mem_append_right _ (List.mem_append_left _ (List.mem_of_getElem? (i := 177) rfl))))), rfl⟩
theorem t_898 : (Jvm.Cond.code ({ cls := "TypeGuard", name := "enter", desc := "(II)V" } : Jvm.MethodName) prog_1_method_9_code (3 : Nat) (Option.none : Option Jvm.ClassFile.FieldType)) ∈ TW := List.mem_filter.mpr ⟨List.mem_append_right _ (List.mem_append_right _ (List.mem_append_right _ (List.mem_append_right _ (List.mem_append_left _ (List.mem_of_getElem? (i := 178) rfl))))), rfl⟩
theorem t_907 : (Jvm.Cond.methodLink "TypeGuardLaw" (32 : Nat) ({ cls := "TypeGuard", name := "put", desc := "(III)V" } : Jvm.MethodName)) ∈ TW := List.mem_filter.mpr ⟨List.mem_append_right _ (List.mem_append_right _ (List.mem_append_right _ (List.mem_append_right _ (List.mem_append_left _ (List.mem_of_getElem? (i := 187) rfl))))), rfl⟩
theorem t_908 : (Jvm.Cond.instanceMethod ({ cls := "TypeGuard", name := "put", desc := "(III)V" } : Jvm.MethodName)) ∈ TW := List.mem_filter.mpr ⟨List.mem_append_right _ (List.mem_append_right _ (List.mem_append_right _ (List.mem_append_right _ (List.mem_append_left _ (List.mem_of_getElem? (i := 188) rfl))))), rfl⟩
theorem t_909 : (Jvm.Cond.selects "TypeGuard" ({ cls := "TypeGuard", name := "put", desc := "(III)V" } : Jvm.MethodName) ({ cls := "TypeGuard", name := "put", desc := "(III)V" } : Jvm.MethodName)) ∈ TW := List.mem_filter.mpr ⟨List.mem_append_right _ (List.mem_append_right _ (List.mem_append_right _ (List.mem_append_right _ (List.mem_append_left _ (List.mem_of_getElem? (i := 189) rfl))))), rfl⟩
theorem t_910 : (Jvm.Cond.code ({ cls := "TypeGuard", name := "put", desc := "(III)V" } : Jvm.MethodName) prog_1_method_10_code (4 : Nat) (Option.none : Option Jvm.ClassFile.FieldType)) ∈ TW := List.mem_filter.mpr ⟨List.mem_append_right _ (List.mem_append_right _ (List.mem_append_right _ (List.mem_append_right _ (List.mem_append_left _ (List.mem_of_getElem? (i := 190) rfl))))), rfl⟩
theorem t_914 : (Jvm.Cond.methodLink "TypeGuardLaw" (36 : Nat) ({ cls := "TypeGuard", name := "ask", desc := "(III)Z" } : Jvm.MethodName)) ∈ TW := List.mem_filter.mpr ⟨List.mem_append_right _ (List.mem_append_right _ (List.mem_append_right _ (List.mem_append_right _ (List.mem_append_left _ (List.mem_of_getElem? (i := 194) rfl))))), rfl⟩
theorem t_915 : (Jvm.Cond.instanceMethod ({ cls := "TypeGuard", name := "ask", desc := "(III)Z" } : Jvm.MethodName)) ∈ TW := List.mem_filter.mpr ⟨List.mem_append_right _ (List.mem_append_right _ (List.mem_append_right _ (List.mem_append_right _ (List.mem_append_left _ (List.mem_of_getElem? (i := 195) rfl))))), rfl⟩
theorem t_916 : (Jvm.Cond.selects "TypeGuard" ({ cls := "TypeGuard", name := "ask", desc := "(III)Z" } : Jvm.MethodName) ({ cls := "TypeGuard", name := "ask", desc := "(III)Z" } : Jvm.MethodName)) ∈ TW := List.mem_filter.mpr ⟨List.mem_append_right _ (List.mem_append_right _ (List.mem_append_right _ (List.mem_append_right _ (List.mem_append_left _ (List.mem_of_getElem? (i := 196) rfl))))), rfl⟩
theorem t_917 : (Jvm.Cond.code ({ cls := "TypeGuard", name := "ask", desc := "(III)Z" } : Jvm.MethodName) prog_1_method_12_code (4 : Nat) (Option.some Jvm.ClassFile.FieldType.boolean)) ∈ TW := List.mem_filter.mpr ⟨List.mem_append_right _ (List.mem_append_right _ (List.mem_append_right _ (List.mem_append_right _ (List.mem_append_left _ (List.mem_of_getElem? (i := 197) rfl))))), rfl⟩
theorem t_950 : (Jvm.Cond.classLink "TypeGuardLaw" (44 : Nat) "java/lang/UnsupportedOperationException") ∈ TW := List.mem_filter.mpr ⟨List.mem_append_right _ (List.mem_append_right _ (List.mem_append_right _ (List.mem_append_right _ (List.mem_append_left _ (List.mem_of_getElem? (i := 230) rfl))))), rfl⟩
theorem t_951 : (Jvm.Cond.methodLink "TypeGuardLaw" (40 : Nat) ({ cls := "TypeGuard", name := "run", desc := "(II)I" } : Jvm.MethodName)) ∈ TW := List.mem_filter.mpr ⟨List.mem_append_right _ (List.mem_append_right _ (List.mem_append_right _ (List.mem_append_right _ (List.mem_append_left _ (List.mem_of_getElem? (i := 231) rfl))))), rfl⟩
theorem t_952 : (Jvm.Cond.instanceMethod ({ cls := "TypeGuard", name := "run", desc := "(II)I" } : Jvm.MethodName)) ∈ TW := List.mem_filter.mpr ⟨List.mem_append_right _ (List.mem_append_right _ (List.mem_append_right _ (List.mem_append_right _ (List.mem_append_left _ (List.mem_of_getElem? (i := 232) rfl))))), rfl⟩
theorem t_953 : (Jvm.Cond.selects "TypeGuard" ({ cls := "TypeGuard", name := "run", desc := "(II)I" } : Jvm.MethodName) ({ cls := "TypeGuard", name := "run", desc := "(II)I" } : Jvm.MethodName)) ∈ TW := List.mem_filter.mpr ⟨List.mem_append_right _ (List.mem_append_right _ (List.mem_append_right _ (List.mem_append_right _ (List.mem_append_left _ (List.mem_of_getElem? (i := 233) rfl))))), rfl⟩
theorem t_954 : (Jvm.Cond.code ({ cls := "TypeGuard", name := "run", desc := "(II)I" } : Jvm.MethodName) prog_1_method_13_code (7 : Nat) (Option.some Jvm.ClassFile.FieldType.int)) ∈ TW := List.mem_filter.mpr ⟨List.mem_append_right _ (List.mem_append_right _ (List.mem_append_right _ (List.mem_append_right _ (List.mem_append_left _ (List.mem_of_getElem? (i := 234) rfl))))), rfl⟩
theorem t_977 : (Jvm.Cond.methodLink "TypeGuardLaw" (46 : Nat) ({ cls := "TypeGuard", name := "make", desc := "(III)I" } : Jvm.MethodName)) ∈ TW := List.mem_filter.mpr ⟨List.mem_append_right _ (List.mem_append_right _ (List.mem_append_right _ (List.mem_append_right _ (List.mem_append_right _ (List.mem_append_left _ (List.mem_of_getElem? (i := 17) rfl)))))), rfl⟩
theorem t_978 : (Jvm.Cond.instanceMethod ({ cls := "TypeGuard", name := "make", desc := "(III)I" } : Jvm.MethodName)) ∈ TW := List.mem_filter.mpr ⟨List.mem_append_right _ (List.mem_append_right _ (List.mem_append_right _ (List.mem_append_right _ (List.mem_append_right _ (List.mem_append_left _ (List.mem_of_getElem? (i := 18) rfl)))))), rfl⟩
theorem t_979 : (Jvm.Cond.selects "TypeGuard" ({ cls := "TypeGuard", name := "make", desc := "(III)I" } : Jvm.MethodName) ({ cls := "TypeGuard", name := "make", desc := "(III)I" } : Jvm.MethodName)) ∈ TW := List.mem_filter.mpr ⟨List.mem_append_right _ (List.mem_append_right _ (List.mem_append_right _ (List.mem_append_right _ (List.mem_append_right _ (List.mem_append_left _ (List.mem_of_getElem? (i := 19) rfl)))))), rfl⟩
theorem t_980 : (Jvm.Cond.code ({ cls := "TypeGuard", name := "make", desc := "(III)I" } : Jvm.MethodName) prog_1_method_14_code (8 : Nat) (Option.some Jvm.ClassFile.FieldType.int)) ∈ TW := List.mem_filter.mpr ⟨List.mem_append_right _ (List.mem_append_right _ (List.mem_append_right _ (List.mem_append_right _ (List.mem_append_right _ (List.mem_append_left _ (List.mem_of_getElem? (i := 20) rfl)))))), rfl⟩
theorem exN_1 {E : String} {k : Nat} (h : ¬ k = 2) : exN E k = E := if_neg h
theorem exN_2 {E : String} {k : Nat} (h : k = 2) : exN E k = "java/lang/UnsupportedOperationException" := if_pos h
theorem f_0 : Cond.castable "java/lang/IllegalArgumentException" "java/lang/IllegalArgumentException" ∈ FW := by decide +kernel
theorem f_1 : Cond.castable "java/util/NoSuchElementException" "java/util/NoSuchElementException" ∈ FW := by decide +kernel
theorem f_2 : Cond.castable "java/lang/UnsupportedOperationException" "java/lang/UnsupportedOperationException" ∈ FW := by decide +kernel
abbrev y_w_load : MethodName := ({ cls := "TypeGuardLaw", name := "load", desc := "(LTypeGuard;[J)I" } : Jvm.MethodName)
theorem d_w_load_0 : decode method_3_code 0 = .ok (.aload_n 1, 1) := by decide +kernel
theorem d_w_load_1 : decode method_3_code 1 = .ok (.iconst 0, 1) := by decide +kernel
theorem d_w_load_2 : decode method_3_code 2 = .ok (.aload_n 0, 1) := by decide +kernel
theorem d_w_load_3 : decode method_3_code 3 = .ok (.invokevirtual 7, 3) := by decide +kernel
theorem d_w_load_6 : decode method_3_code 6 = .ok (.i2l, 1) := by decide +kernel
theorem d_w_load_7 : decode method_3_code 7 = .ok (.lastore, 1) := by decide +kernel
theorem d_w_load_8 : decode method_3_code 8 = .ok (.goto 6, 3) := by decide +kernel
theorem d_w_load_11 : decode method_3_code 11 = .ok (.astore_n 2, 1) := by decide +kernel
theorem d_w_load_12 : decode method_3_code 12 = .ok (.iconst 1, 1) := by decide +kernel
theorem d_w_load_13 : decode method_3_code 13 = .ok (.ireturn, 1) := by decide +kernel
theorem d_w_load_14 : decode method_3_code 14 = .ok (.iconst 0, 1) := by decide +kernel
theorem d_w_load_15 : decode method_3_code 15 = .ok (.ireturn, 1) := by decide +kernel
def w_load  (Z : ST) : Option (ST × Int32) := ((cG_load  Z.1).bind fun q => (if q.2.1 = 0 then some ((q.1, Z.2.1, va_up Z.2.2 0 q.2.2.toInt64), 0) else (if q.2.1 = 2 then none else some ((q.1, Z.2), 1))))
set_option maxHeartbeats 4000000 in
set_option maxRecDepth 100000 in
theorem M_w_load {l : Launch} (hT : ∀ e, l.admits e → e.platform.stackTraces = false) {D : va_G} {cA : Nat → ClassId} {b : Nat} {ad : Nat → Nat}  {Z : ST} {rr : ST × Int32} (h : w_load  Z = some rr) : Met l y_w_load (Cond.codeWith y_w_load method_3_code 3 (some .int) [(0, 8, 11, 13)] :: TW) { frames := 8, cells := 1, slots := 6, locals := 180 } (va_Pc [.ref (b + 0), .ref (b + 293)] (RpY D cA b ad Z)) (Qr D cA b ad rr.1 (some (.int rr.2))) 1 6 (Ab b) := by
  obtain ⟨C, M, o⟩ := Z
  refine Ct_ofW (by decide) (Nat.le_of_ble_eq_true rfl) ?_
  intro p e R s m args below meth c ls Q H locs hR hQ hx hb hts hown hml hr hlk hC hY hX hS hl hex
  have hRf : R.frames = 8 := by rw [hR]
  have hRl : R.locals = 180 := by rw [hR]
  have hown : s.vm.findClass "TypeGuardLaw" = some m.cls := hown
  have hl : lv_has ls 3 [(0, .ref (b + 0)), (1, .ref (b + 293))] := hl
  rw [w_load] at h
  obtain ⟨q, hc, h⟩ := Option.bind_eq_some_iff.mp h
  refine lv_aload_n hx hb d_w_load_0 rfl (lv_at hl 1 rfl) ?_
  refine lv_iconst (v := 0) hx hb d_w_load_1 (by decide) ?_
  refine lv_aload_n hx hb d_w_load_2 rfl (lv_at hl 0 rfl) ?_
  by_cases h0 : q.2.1 = 0
  · rw [if_pos h0] at h
    obtain rfl := Option.some.inj h
    have hM := M_cG_load hT (D := D) (cA := cA) (b := b) (ad := ad) (T := (M, o)) hc
    rw [h0] at hM
    refine ck_T (As := []) (rest := [.int 0, .ref (b + 293)]) (st1 := [.int q.2.2, .int 0, .ref (b + 293)]) hM t_423 t_424 t_425 t_426 t_1 hx hb hts hown hC hY hX hS (hrc_c0 hC hX (by rfl)) hml hl.1 ⟨by rw [hRf]; decide, by rw [hRl]; decide⟩ ⟨rfl, rfl⟩ (n := 0) (by decide +kernel) rfl rfl rfl (lv_room (Nat.le_of_ble_eq_true rfl)) d_w_load_3 ⟨by rw [hR]; decide, by rw [hR]; decide⟩ (fun H locs hX hS => ?_)
    refine lv_i2l (v := q.2.2.toInt64) hx hb d_w_load_6 rfl ?_
    refine o_ast hx hb hC hX hS d_w_load_7 (fun H locs hX hS => ?_)
    refine lv_goto hx hb d_w_load_8 (tgt := 14) (by decide) ?_
    refine lv_iconst (v := 0) hx hb d_w_load_14 (by decide) ?_
    exact rt_i hQ hx hb hr hX hS hlk d_w_load_15
  · rw [if_neg h0] at h
    have hM := M_cG_load hT (D := D) (cA := cA) (b := b) (ad := ad) (T := (M, o)) hc
    by_cases h2 : q.2.1 = 2
    · rw [if_pos h2] at h
      cases h
    · rw [if_neg h2] at h
      obtain rfl := Option.some.inj h
      refine ck_X (As := []) (rest := [.int 0, .ref (b + 293)]) h0 hM t_423 t_424 t_425 t_426 t_1 hx hb hts hown hC hY hX hS (hrc_c0 hC hX (by rfl)) hml hl.1 ⟨by rw [hRf]; decide, by rw [hRl]; decide⟩ ⟨rfl, rfl⟩ (n := 0) (by decide +kernel) rfl rfl (lv_room (Nat.le_of_ble_eq_true rfl)) d_w_load_3 ⟨by rw [hR]; decide, by rw [hR]; decide⟩ (by rw [exN_1 h2]; exact hf_one rfl hex ⟨Nat.le_of_ble_eq_true rfl, Nat.le_of_ble_eq_true rfl⟩ (by decide) hown (hts _ t_422) (hY.1 _ f_0)) (fun H locs x hX hS => ?_)
      refine lv_astore_n (lv' := [(2, .ref x), (0, .ref (b + 0)), (1, .ref (b + 293))]) hx hb d_w_load_11 rfl hl (by decide) rfl (fun ls hl => ?_)
      refine lv_iconst (v := 1) hx hb d_w_load_12 (by decide) ?_
      exact rt_i hQ hx hb hr hX hS hlk d_w_load_13
abbrev y_w_flip : MethodName := ({ cls := "TypeGuardLaw", name := "flip", desc := "(LTypeGuard;IZ[J)I" } : Jvm.MethodName)
theorem d_w_flip_0 : decode method_4_code 0 = .ok (.aload_n 3, 1) := by decide +kernel
theorem d_w_flip_1 : decode method_4_code 1 = .ok (.iconst 0, 1) := by decide +kernel
theorem d_w_flip_2 : decode method_4_code 2 = .ok (.aload_n 0, 1) := by decide +kernel
theorem d_w_flip_3 : decode method_4_code 3 = .ok (.iload_n 1, 1) := by decide +kernel
theorem d_w_flip_4 : decode method_4_code 4 = .ok (.iload_n 2, 1) := by decide +kernel
theorem d_w_flip_5 : decode method_4_code 5 = .ok (.invokevirtual 15, 3) := by decide +kernel
theorem d_w_flip_8 : decode method_4_code 8 = .ok (.ifCond .eq 7, 3) := by decide +kernel
theorem d_w_flip_11 : decode method_4_code 11 = .ok (.lconst 1, 1) := by decide +kernel
theorem d_w_flip_12 : decode method_4_code 12 = .ok (.goto 4, 3) := by decide +kernel
theorem d_w_flip_15 : decode method_4_code 15 = .ok (.lconst 0, 1) := by decide +kernel
theorem d_w_flip_16 : decode method_4_code 16 = .ok (.lastore, 1) := by decide +kernel
theorem d_w_flip_17 : decode method_4_code 17 = .ok (.goto 7, 3) := by decide +kernel
theorem d_w_flip_20 : decode method_4_code 20 = .ok (.astore 4, 2) := by decide +kernel
theorem d_w_flip_22 : decode method_4_code 22 = .ok (.iconst 1, 1) := by decide +kernel
theorem d_w_flip_23 : decode method_4_code 23 = .ok (.ireturn, 1) := by decide +kernel
theorem d_w_flip_24 : decode method_4_code 24 = .ok (.iconst 0, 1) := by decide +kernel
theorem d_w_flip_25 : decode method_4_code 25 = .ok (.ireturn, 1) := by decide +kernel
def w_flip (x1 : Int32) (x2 : Bool) (Z : ST) : Option (ST × Int32) := ((cG_flip x1 x2 Z.1).bind fun q => (if q.2.1 = 0 then some ((q.1, Z.2.1, va_up Z.2.2 0 (if q.2.2 = true then 1 else 0)), 0) else (if q.2.1 = 2 then none else some ((q.1, Z.2), 1))))
set_option maxHeartbeats 4000000 in
set_option maxRecDepth 100000 in
theorem M_w_flip {l : Launch} (hT : ∀ e, l.admits e → e.platform.stackTraces = false) {D : va_G} {cA : Nat → ClassId} {b : Nat} {ad : Nat → Nat} {x1 : Int32} {x2 : Bool} {Z : ST} {rr : ST × Int32} (h : w_flip x1 x2 Z = some rr) : Met l y_w_flip (Cond.codeWith y_w_flip method_4_code 5 (some .int) [(0, 17, 20, 19)] :: TW) { frames := 8, cells := 1, slots := 6, locals := 143 } (va_Pc [.ref (b + 0), .int x1, .int (bI x2), .ref (b + 293)] (RpY D cA b ad Z)) (Qr D cA b ad rr.1 (some (.int rr.2))) 1 6 (Ab b) := by
  obtain ⟨C, M, o⟩ := Z
  refine Ct_ofW (by decide) (Nat.le_of_ble_eq_true rfl) ?_
  intro p e R s m args below meth c ls Q H locs hR hQ hx hb hts hown hml hr hlk hC hY hX hS hl hex
  have hRf : R.frames = 8 := by rw [hR]
  have hRl : R.locals = 143 := by rw [hR]
  have hown : s.vm.findClass "TypeGuardLaw" = some m.cls := hown
  have hl : lv_has ls 5 [(0, .ref (b + 0)), (1, .int x1), (2, .int (bI x2)), (3, .ref (b + 293))] := hl
  rw [w_flip] at h
  obtain ⟨q, hc, h⟩ := Option.bind_eq_some_iff.mp h
  refine lv_aload_n hx hb d_w_flip_0 rfl (lv_at hl 3 rfl) ?_
  refine lv_iconst (v := 0) hx hb d_w_flip_1 (by decide) ?_
  refine lv_aload_n hx hb d_w_flip_2 rfl (lv_at hl 0 rfl) ?_
  refine lv_iload_n hx hb d_w_flip_3 rfl (lv_at hl 1 rfl) ?_
  refine lv_iload_n hx hb d_w_flip_4 rfl (lv_at hl 2 rfl) ?_
  by_cases h0 : q.2.1 = 0
  · rw [if_pos h0] at h
    obtain rfl := Option.some.inj h
    have hM := M_cG_flip hT (D := D) (cA := cA) (b := b) (ad := ad) (T := (M, o)) hc
    rw [h0] at hM
    refine ck_T (As := [.int x1, .int (bI x2)]) (rest := [.int 0, .ref (b + 293)]) (st1 := [.int (bI q.2.2), .int 0, .ref (b + 293)]) hM t_831 t_832 t_833 t_834 t_1 hx hb hts hown hC hY hX hS (hrc_c0 hC hX (by rfl)) hml hl.1 ⟨by rw [hRf]; decide, by rw [hRl]; decide⟩ ⟨rfl, rfl⟩ (n := 2) (by decide +kernel) rfl rfl rfl (lv_room (Nat.le_of_ble_eq_true rfl)) d_w_flip_5 ⟨by rw [hR]; decide, by rw [hR]; decide⟩ (fun H locs hX hS => ?_)
    have hQ := hQ
    refine lz_ifeq hx hb d_w_flip_8 (tgt := 15) (by decide) (fun hz => ?_) (fun hz => ?_)
    · rw [if_neg hz] at hQ
      refine lv_lconst (v := 0) hx hb d_w_flip_15 (by decide) ?_
      refine o_ast hx hb hC hX hS d_w_flip_16 (fun H locs hX hS => ?_)
      refine lv_goto hx hb d_w_flip_17 (tgt := 24) (by decide) ?_
      refine lv_iconst (v := 0) hx hb d_w_flip_24 (by decide) ?_
      exact rt_i hQ hx hb hr hX hS hlk d_w_flip_25
    · rw [if_pos hz] at hQ
      refine lv_lconst (v := 1) hx hb d_w_flip_11 (by decide) ?_
      refine lv_goto hx hb d_w_flip_12 (tgt := 16) (by decide) ?_
      refine o_ast hx hb hC hX hS d_w_flip_16 (fun H locs hX hS => ?_)
      refine lv_goto hx hb d_w_flip_17 (tgt := 24) (by decide) ?_
      refine lv_iconst (v := 0) hx hb d_w_flip_24 (by decide) ?_
      exact rt_i hQ hx hb hr hX hS hlk d_w_flip_25
  · rw [if_neg h0] at h
    have hM := M_cG_flip hT (D := D) (cA := cA) (b := b) (ad := ad) (T := (M, o)) hc
    by_cases h2 : q.2.1 = 2
    · rw [if_pos h2] at h
      cases h
    · rw [if_neg h2] at h
      obtain rfl := Option.some.inj h
      refine ck_X (As := [.int x1, .int (bI x2)]) (rest := [.int 0, .ref (b + 293)]) h0 hM t_831 t_832 t_833 t_834 t_1 hx hb hts hown hC hY hX hS (hrc_c0 hC hX (by rfl)) hml hl.1 ⟨by rw [hRf]; decide, by rw [hRl]; decide⟩ ⟨rfl, rfl⟩ (n := 2) (by decide +kernel) rfl rfl (lv_room (Nat.le_of_ble_eq_true rfl)) d_w_flip_5 ⟨by rw [hR]; decide, by rw [hR]; decide⟩ (by rw [exN_1 h2]; exact hf_one rfl hex ⟨Nat.le_of_ble_eq_true rfl, Nat.le_of_ble_eq_true rfl⟩ (by decide) hown (hts _ t_830) (hY.1 _ f_1)) (fun H locs x hX hS => ?_)
      refine lv_astore (lv' := [(4, .ref x), (0, .ref (b + 0)), (1, .int x1), (2, .int (bI x2)), (3, .ref (b + 293))]) hx hb d_w_flip_20 hl (by decide) rfl (fun ls hl => ?_)
      refine lv_iconst (v := 1) hx hb d_w_flip_22 (by decide) ?_
      exact rt_i hQ hx hb hr hX hS hlk d_w_flip_23
abbrev y_w_vector : MethodName := ({ cls := "TypeGuardLaw", name := "vector", desc := "(LTypeGuard;IIII[J)I" } : Jvm.MethodName)
theorem d_w_vector_0 : decode method_5_code 0 = .ok (.aload 5, 2) := by decide +kernel
theorem d_w_vector_2 : decode method_5_code 2 = .ok (.iconst 0, 1) := by decide +kernel
theorem d_w_vector_3 : decode method_5_code 3 = .ok (.aload_n 0, 1) := by decide +kernel
theorem d_w_vector_4 : decode method_5_code 4 = .ok (.iload_n 1, 1) := by decide +kernel
theorem d_w_vector_5 : decode method_5_code 5 = .ok (.iload_n 2, 1) := by decide +kernel
theorem d_w_vector_6 : decode method_5_code 6 = .ok (.iload_n 3, 1) := by decide +kernel
theorem d_w_vector_7 : decode method_5_code 7 = .ok (.iload 4, 2) := by decide +kernel
theorem d_w_vector_9 : decode method_5_code 9 = .ok (.invokevirtual 21, 3) := by decide +kernel
theorem d_w_vector_12 : decode method_5_code 12 = .ok (.i2l, 1) := by decide +kernel
theorem d_w_vector_13 : decode method_5_code 13 = .ok (.lastore, 1) := by decide +kernel
theorem d_w_vector_14 : decode method_5_code 14 = .ok (.goto 7, 3) := by decide +kernel
theorem d_w_vector_17 : decode method_5_code 17 = .ok (.astore 6, 2) := by decide +kernel
theorem d_w_vector_19 : decode method_5_code 19 = .ok (.iconst 1, 1) := by decide +kernel
theorem d_w_vector_20 : decode method_5_code 20 = .ok (.ireturn, 1) := by decide +kernel
theorem d_w_vector_21 : decode method_5_code 21 = .ok (.iconst 0, 1) := by decide +kernel
theorem d_w_vector_22 : decode method_5_code 22 = .ok (.ireturn, 1) := by decide +kernel
def w_vector (x1 : Int32) (x2 : Int32) (x3 : Int32) (x4 : Int32) (Z : ST) : Option (ST × Int32) := ((cG_vector x1 x2 x3 x4 Z.1).bind fun q => (if q.2.1 = 0 then some ((q.1, Z.2.1, va_up Z.2.2 0 q.2.2.toInt64), 0) else (if q.2.1 = 2 then none else some ((q.1, Z.2), 1))))
set_option maxHeartbeats 4000000 in
set_option maxRecDepth 100000 in
theorem M_w_vector {l : Launch} (hT : ∀ e, l.admits e → e.platform.stackTraces = false) {D : va_G} {cA : Nat → ClassId} {b : Nat} {ad : Nat → Nat} {x1 : Int32} {x2 : Int32} {x3 : Int32} {x4 : Int32} {Z : ST} {rr : ST × Int32} (h : w_vector x1 x2 x3 x4 Z = some rr) : Met l y_w_vector (Cond.codeWith y_w_vector method_5_code 7 (some .int) [(0, 14, 17, 19)] :: TW) { frames := 8, cells := 1, slots := 6, locals := 144 } (va_Pc [.ref (b + 0), .int x1, .int x2, .int x3, .int x4, .ref (b + 293)] (RpY D cA b ad Z)) (Qr D cA b ad rr.1 (some (.int rr.2))) 1 6 (Ab b) := by
  obtain ⟨C, M, o⟩ := Z
  refine Ct_ofW (by decide) (Nat.le_of_ble_eq_true rfl) ?_
  intro p e R s m args below meth c ls Q H locs hR hQ hx hb hts hown hml hr hlk hC hY hX hS hl hex
  have hRf : R.frames = 8 := by rw [hR]
  have hRl : R.locals = 144 := by rw [hR]
  have hown : s.vm.findClass "TypeGuardLaw" = some m.cls := hown
  have hl : lv_has ls 7 [(0, .ref (b + 0)), (1, .int x1), (2, .int x2), (3, .int x3), (4, .int x4), (5, .ref (b + 293))] := hl
  rw [w_vector] at h
  obtain ⟨q, hc, h⟩ := Option.bind_eq_some_iff.mp h
  refine lv_aload hx hb d_w_vector_0 (lv_at hl 5 rfl) ?_
  refine lv_iconst (v := 0) hx hb d_w_vector_2 (by decide) ?_
  refine lv_aload_n hx hb d_w_vector_3 rfl (lv_at hl 0 rfl) ?_
  refine lv_iload_n hx hb d_w_vector_4 rfl (lv_at hl 1 rfl) ?_
  refine lv_iload_n hx hb d_w_vector_5 rfl (lv_at hl 2 rfl) ?_
  refine lv_iload_n hx hb d_w_vector_6 rfl (lv_at hl 3 rfl) ?_
  refine lv_iload hx hb d_w_vector_7 (lv_at hl 4 rfl) ?_
  by_cases h0 : q.2.1 = 0
  · rw [if_pos h0] at h
    obtain rfl := Option.some.inj h
    have hM := M_cG_vector hT (D := D) (cA := cA) (b := b) (ad := ad) (T := (M, o)) hc
    rw [h0] at hM
    refine ck_T (As := [.int x1, .int x2, .int x3, .int x4]) (rest := [.int 0, .ref (b + 293)]) (st1 := [.int q.2.2, .int 0, .ref (b + 293)]) hM t_857 t_858 t_859 t_860 t_1 hx hb hts hown hC hY hX hS (hrc_c0 hC hX (by rfl)) hml hl.1 ⟨by rw [hRf]; decide, by rw [hRl]; decide⟩ ⟨rfl, rfl⟩ (n := 4) (by decide +kernel) rfl rfl rfl (lv_room (Nat.le_of_ble_eq_true rfl)) d_w_vector_9 ⟨by rw [hR]; decide, by rw [hR]; decide⟩ (fun H locs hX hS => ?_)
    refine lv_i2l (v := q.2.2.toInt64) hx hb d_w_vector_12 rfl ?_
    refine o_ast hx hb hC hX hS d_w_vector_13 (fun H locs hX hS => ?_)
    refine lv_goto hx hb d_w_vector_14 (tgt := 21) (by decide) ?_
    refine lv_iconst (v := 0) hx hb d_w_vector_21 (by decide) ?_
    exact rt_i hQ hx hb hr hX hS hlk d_w_vector_22
  · rw [if_neg h0] at h
    have hM := M_cG_vector hT (D := D) (cA := cA) (b := b) (ad := ad) (T := (M, o)) hc
    by_cases h2 : q.2.1 = 2
    · rw [if_pos h2] at h
      cases h
    · rw [if_neg h2] at h
      obtain rfl := Option.some.inj h
      refine ck_X (As := [.int x1, .int x2, .int x3, .int x4]) (rest := [.int 0, .ref (b + 293)]) h0 hM t_857 t_858 t_859 t_860 t_1 hx hb hts hown hC hY hX hS (hrc_c0 hC hX (by rfl)) hml hl.1 ⟨by rw [hRf]; decide, by rw [hRl]; decide⟩ ⟨rfl, rfl⟩ (n := 4) (by decide +kernel) rfl rfl (lv_room (Nat.le_of_ble_eq_true rfl)) d_w_vector_9 ⟨by rw [hR]; decide, by rw [hR]; decide⟩ (by rw [exN_1 h2]; exact hf_one rfl hex ⟨Nat.le_of_ble_eq_true rfl, Nat.le_of_ble_eq_true rfl⟩ (by decide) hown (hts _ t_830) (hY.1 _ f_1)) (fun H locs x hX hS => ?_)
      refine lv_astore (lv' := [(6, .ref x), (0, .ref (b + 0)), (1, .int x1), (2, .int x2), (3, .int x3), (4, .int x4), (5, .ref (b + 293))]) hx hb d_w_vector_17 hl (by decide) rfl (fun ls hl => ?_)
      refine lv_iconst (v := 1) hx hb d_w_vector_19 (by decide) ?_
      exact rt_i hQ hx hb hr hX hS hlk d_w_vector_20
abbrev y_w_why : MethodName := ({ cls := "TypeGuardLaw", name := "why", desc := "(LTypeGuard;IIII[J)I" } : Jvm.MethodName)
theorem d_w_why_0 : decode method_6_code 0 = .ok (.aload 5, 2) := by decide +kernel
theorem d_w_why_2 : decode method_6_code 2 = .ok (.iconst 0, 1) := by decide +kernel
theorem d_w_why_3 : decode method_6_code 3 = .ok (.aload_n 0, 1) := by decide +kernel
theorem d_w_why_4 : decode method_6_code 4 = .ok (.iload_n 1, 1) := by decide +kernel
theorem d_w_why_5 : decode method_6_code 5 = .ok (.iload_n 2, 1) := by decide +kernel
theorem d_w_why_6 : decode method_6_code 6 = .ok (.iload_n 3, 1) := by decide +kernel
theorem d_w_why_7 : decode method_6_code 7 = .ok (.iload 4, 2) := by decide +kernel
theorem d_w_why_9 : decode method_6_code 9 = .ok (.invokevirtual 25, 3) := by decide +kernel
theorem d_w_why_12 : decode method_6_code 12 = .ok (.i2l, 1) := by decide +kernel
theorem d_w_why_13 : decode method_6_code 13 = .ok (.lastore, 1) := by decide +kernel
theorem d_w_why_14 : decode method_6_code 14 = .ok (.goto 7, 3) := by decide +kernel
theorem d_w_why_17 : decode method_6_code 17 = .ok (.astore 6, 2) := by decide +kernel
theorem d_w_why_19 : decode method_6_code 19 = .ok (.iconst 1, 1) := by decide +kernel
theorem d_w_why_20 : decode method_6_code 20 = .ok (.ireturn, 1) := by decide +kernel
theorem d_w_why_21 : decode method_6_code 21 = .ok (.iconst 0, 1) := by decide +kernel
theorem d_w_why_22 : decode method_6_code 22 = .ok (.ireturn, 1) := by decide +kernel
def w_why (x1 : Int32) (x2 : Int32) (x3 : Int32) (x4 : Int32) (Z : ST) : Option (ST × Int32) := ((cG_why x1 x2 x3 x4 Z.1).bind fun q => (if q.2.1 = 0 then some ((q.1, Z.2.1, va_up Z.2.2 0 q.2.2.toInt64), 0) else (if q.2.1 = 2 then none else some ((q.1, Z.2), 1))))
set_option maxHeartbeats 4000000 in
set_option maxRecDepth 100000 in
theorem M_w_why {l : Launch} (hT : ∀ e, l.admits e → e.platform.stackTraces = false) {D : va_G} {cA : Nat → ClassId} {b : Nat} {ad : Nat → Nat} {x1 : Int32} {x2 : Int32} {x3 : Int32} {x4 : Int32} {Z : ST} {rr : ST × Int32} (h : w_why x1 x2 x3 x4 Z = some rr) : Met l y_w_why (Cond.codeWith y_w_why method_6_code 7 (some .int) [(0, 14, 17, 19)] :: TW) { frames := 8, cells := 1, slots := 6, locals := 144 } (va_Pc [.ref (b + 0), .int x1, .int x2, .int x3, .int x4, .ref (b + 293)] (RpY D cA b ad Z)) (Qr D cA b ad rr.1 (some (.int rr.2))) 1 6 (Ab b) := by
  obtain ⟨C, M, o⟩ := Z
  refine Ct_ofW (by decide) (Nat.le_of_ble_eq_true rfl) ?_
  intro p e R s m args below meth c ls Q H locs hR hQ hx hb hts hown hml hr hlk hC hY hX hS hl hex
  have hRf : R.frames = 8 := by rw [hR]
  have hRl : R.locals = 144 := by rw [hR]
  have hown : s.vm.findClass "TypeGuardLaw" = some m.cls := hown
  have hl : lv_has ls 7 [(0, .ref (b + 0)), (1, .int x1), (2, .int x2), (3, .int x3), (4, .int x4), (5, .ref (b + 293))] := hl
  rw [w_why] at h
  obtain ⟨q, hc, h⟩ := Option.bind_eq_some_iff.mp h
  refine lv_aload hx hb d_w_why_0 (lv_at hl 5 rfl) ?_
  refine lv_iconst (v := 0) hx hb d_w_why_2 (by decide) ?_
  refine lv_aload_n hx hb d_w_why_3 rfl (lv_at hl 0 rfl) ?_
  refine lv_iload_n hx hb d_w_why_4 rfl (lv_at hl 1 rfl) ?_
  refine lv_iload_n hx hb d_w_why_5 rfl (lv_at hl 2 rfl) ?_
  refine lv_iload_n hx hb d_w_why_6 rfl (lv_at hl 3 rfl) ?_
  refine lv_iload hx hb d_w_why_7 (lv_at hl 4 rfl) ?_
  by_cases h0 : q.2.1 = 0
  · rw [if_pos h0] at h
    obtain rfl := Option.some.inj h
    have hM := M_cG_why hT (D := D) (cA := cA) (b := b) (ad := ad) (T := (M, o)) hc
    rw [h0] at hM
    refine ck_T (As := [.int x1, .int x2, .int x3, .int x4]) (rest := [.int 0, .ref (b + 293)]) (st1 := [.int q.2.2, .int 0, .ref (b + 293)]) hM t_884 t_885 t_886 t_887 t_1 hx hb hts hown hC hY hX hS (hrc_c0 hC hX (by rfl)) hml hl.1 ⟨by rw [hRf]; decide, by rw [hRl]; decide⟩ ⟨rfl, rfl⟩ (n := 4) (by decide +kernel) rfl rfl rfl (lv_room (Nat.le_of_ble_eq_true rfl)) d_w_why_9 ⟨by rw [hR]; decide, by rw [hR]; decide⟩ (fun H locs hX hS => ?_)
    refine lv_i2l (v := q.2.2.toInt64) hx hb d_w_why_12 rfl ?_
    refine o_ast hx hb hC hX hS d_w_why_13 (fun H locs hX hS => ?_)
    refine lv_goto hx hb d_w_why_14 (tgt := 21) (by decide) ?_
    refine lv_iconst (v := 0) hx hb d_w_why_21 (by decide) ?_
    exact rt_i hQ hx hb hr hX hS hlk d_w_why_22
  · rw [if_neg h0] at h
    have hM := M_cG_why hT (D := D) (cA := cA) (b := b) (ad := ad) (T := (M, o)) hc
    by_cases h2 : q.2.1 = 2
    · rw [if_pos h2] at h
      cases h
    · rw [if_neg h2] at h
      obtain rfl := Option.some.inj h
      refine ck_X (As := [.int x1, .int x2, .int x3, .int x4]) (rest := [.int 0, .ref (b + 293)]) h0 hM t_884 t_885 t_886 t_887 t_1 hx hb hts hown hC hY hX hS (hrc_c0 hC hX (by rfl)) hml hl.1 ⟨by rw [hRf]; decide, by rw [hRl]; decide⟩ ⟨rfl, rfl⟩ (n := 4) (by decide +kernel) rfl rfl (lv_room (Nat.le_of_ble_eq_true rfl)) d_w_why_9 ⟨by rw [hR]; decide, by rw [hR]; decide⟩ (by rw [exN_1 h2]; exact hf_one rfl hex ⟨Nat.le_of_ble_eq_true rfl, Nat.le_of_ble_eq_true rfl⟩ (by decide) hown (hts _ t_830) (hY.1 _ f_1)) (fun H locs x hX hS => ?_)
      refine lv_astore (lv' := [(6, .ref x), (0, .ref (b + 0)), (1, .int x1), (2, .int x2), (3, .int x3), (4, .int x4), (5, .ref (b + 293))]) hx hb d_w_why_17 hl (by decide) rfl (fun ls hl => ?_)
      refine lv_iconst (v := 1) hx hb d_w_why_19 (by decide) ?_
      exact rt_i hQ hx hb hr hX hS hlk d_w_why_20
abbrev y_w_enter : MethodName := ({ cls := "TypeGuardLaw", name := "enter", desc := "(LTypeGuard;II)I" } : Jvm.MethodName)
theorem d_w_enter_0 : decode method_7_code 0 = .ok (.aload_n 0, 1) := by decide +kernel
theorem d_w_enter_1 : decode method_7_code 1 = .ok (.iload_n 1, 1) := by decide +kernel
theorem d_w_enter_2 : decode method_7_code 2 = .ok (.iload_n 2, 1) := by decide +kernel
theorem d_w_enter_3 : decode method_7_code 3 = .ok (.invokevirtual 28, 3) := by decide +kernel
theorem d_w_enter_6 : decode method_7_code 6 = .ok (.goto 6, 3) := by decide +kernel
theorem d_w_enter_9 : decode method_7_code 9 = .ok (.astore_n 3, 1) := by decide +kernel
theorem d_w_enter_10 : decode method_7_code 10 = .ok (.iconst 1, 1) := by decide +kernel
theorem d_w_enter_11 : decode method_7_code 11 = .ok (.ireturn, 1) := by decide +kernel
theorem d_w_enter_12 : decode method_7_code 12 = .ok (.iconst 0, 1) := by decide +kernel
theorem d_w_enter_13 : decode method_7_code 13 = .ok (.ireturn, 1) := by decide +kernel
def w_enter (x1 : Int32) (x2 : Int32) (Z : ST) : Option (ST × Int32) := ((cG_enter x1 x2 Z.1).bind fun q => (if q.2.1 = 0 then some ((q.1, Z.2.1, Z.2.2), 0) else (if q.2.1 = 2 then none else some ((q.1, Z.2), 1))))
set_option maxHeartbeats 4000000 in
set_option maxRecDepth 100000 in
theorem M_w_enter {l : Launch} (hT : ∀ e, l.admits e → e.platform.stackTraces = false) {D : va_G} {cA : Nat → ClassId} {b : Nat} {ad : Nat → Nat} {x1 : Int32} {x2 : Int32} {Z : ST} {rr : ST × Int32} (h : w_enter x1 x2 Z = some rr) : Met l y_w_enter (Cond.codeWith y_w_enter method_7_code 4 (some .int) [(0, 6, 9, 19)] :: TW) { frames := 8, cells := 1, slots := 6, locals := 142 } (va_Pc [.ref (b + 0), .int x1, .int x2] (RpY D cA b ad Z)) (Qr D cA b ad rr.1 (some (.int rr.2))) 1 6 (Ab b) := by
  obtain ⟨C, M, o⟩ := Z
  refine Ct_ofW (by decide) (Nat.le_of_ble_eq_true rfl) ?_
  intro p e R s m args below meth c ls Q H locs hR hQ hx hb hts hown hml hr hlk hC hY hX hS hl hex
  have hRf : R.frames = 8 := by rw [hR]
  have hRl : R.locals = 142 := by rw [hR]
  have hown : s.vm.findClass "TypeGuardLaw" = some m.cls := hown
  have hl : lv_has ls 4 [(0, .ref (b + 0)), (1, .int x1), (2, .int x2)] := hl
  rw [w_enter] at h
  obtain ⟨q, hc, h⟩ := Option.bind_eq_some_iff.mp h
  refine lv_aload_n hx hb d_w_enter_0 rfl (lv_at hl 0 rfl) ?_
  refine lv_iload_n hx hb d_w_enter_1 rfl (lv_at hl 1 rfl) ?_
  refine lv_iload_n hx hb d_w_enter_2 rfl (lv_at hl 2 rfl) ?_
  by_cases h0 : q.2.1 = 0
  · rw [if_pos h0] at h
    obtain rfl := Option.some.inj h
    have hM := M_cG_enter hT (D := D) (cA := cA) (b := b) (ad := ad) (T := (M, o)) hc
    rw [h0] at hM
    refine ck_T (As := [.int x1, .int x2]) (rest := []) (st1 := []) hM t_895 t_896 t_897 t_898 t_1 hx hb hts hown hC hY hX hS (hrc_c0 hC hX (by rfl)) hml hl.1 ⟨by rw [hRf]; decide, by rw [hRl]; decide⟩ ⟨rfl, rfl⟩ (n := 2) (by decide +kernel) rfl rfl rfl (lv_room (Nat.le_of_ble_eq_true rfl)) d_w_enter_3 ⟨by rw [hR]; decide, by rw [hR]; decide⟩ (fun H locs hX hS => ?_)
    refine lv_goto hx hb d_w_enter_6 (tgt := 12) (by decide) ?_
    refine lv_iconst (v := 0) hx hb d_w_enter_12 (by decide) ?_
    exact rt_i hQ hx hb hr hX hS hlk d_w_enter_13
  · rw [if_neg h0] at h
    have hM := M_cG_enter hT (D := D) (cA := cA) (b := b) (ad := ad) (T := (M, o)) hc
    by_cases h2 : q.2.1 = 2
    · rw [if_pos h2] at h
      cases h
    · rw [if_neg h2] at h
      obtain rfl := Option.some.inj h
      refine ck_X (As := [.int x1, .int x2]) (rest := []) h0 hM t_895 t_896 t_897 t_898 t_1 hx hb hts hown hC hY hX hS (hrc_c0 hC hX (by rfl)) hml hl.1 ⟨by rw [hRf]; decide, by rw [hRl]; decide⟩ ⟨rfl, rfl⟩ (n := 2) (by decide +kernel) rfl rfl (lv_room (Nat.le_of_ble_eq_true rfl)) d_w_enter_3 ⟨by rw [hR]; decide, by rw [hR]; decide⟩ (by rw [exN_1 h2]; exact hf_one rfl hex ⟨Nat.le_of_ble_eq_true rfl, Nat.le_of_ble_eq_true rfl⟩ (by decide) hown (hts _ t_830) (hY.1 _ f_1)) (fun H locs x hX hS => ?_)
      refine lv_astore_n (lv' := [(3, .ref x), (0, .ref (b + 0)), (1, .int x1), (2, .int x2)]) hx hb d_w_enter_9 rfl hl (by decide) rfl (fun ls hl => ?_)
      refine lv_iconst (v := 1) hx hb d_w_enter_10 (by decide) ?_
      exact rt_i hQ hx hb hr hX hS hlk d_w_enter_11
abbrev y_w_put : MethodName := ({ cls := "TypeGuardLaw", name := "put", desc := "(LTypeGuard;III)I" } : Jvm.MethodName)
theorem d_w_put_0 : decode method_8_code 0 = .ok (.aload_n 0, 1) := by decide +kernel
theorem d_w_put_1 : decode method_8_code 1 = .ok (.iload_n 1, 1) := by decide +kernel
theorem d_w_put_2 : decode method_8_code 2 = .ok (.iload_n 2, 1) := by decide +kernel
theorem d_w_put_3 : decode method_8_code 3 = .ok (.iload_n 3, 1) := by decide +kernel
theorem d_w_put_4 : decode method_8_code 4 = .ok (.invokevirtual 32, 3) := by decide +kernel
theorem d_w_put_7 : decode method_8_code 7 = .ok (.goto 7, 3) := by decide +kernel
theorem d_w_put_10 : decode method_8_code 10 = .ok (.astore 4, 2) := by decide +kernel
theorem d_w_put_12 : decode method_8_code 12 = .ok (.iconst 1, 1) := by decide +kernel
theorem d_w_put_13 : decode method_8_code 13 = .ok (.ireturn, 1) := by decide +kernel
theorem d_w_put_14 : decode method_8_code 14 = .ok (.iconst 0, 1) := by decide +kernel
theorem d_w_put_15 : decode method_8_code 15 = .ok (.ireturn, 1) := by decide +kernel
def w_put (x1 : Int32) (x2 : Int32) (x3 : Int32) (Z : ST) : Option (ST × Int32) := ((cG_put x1 x2 x3 Z.1).bind fun q => (if q.2.1 = 0 then some ((q.1, Z.2.1, Z.2.2), 0) else (if q.2.1 = 2 then none else some ((q.1, Z.2), 1))))
set_option maxHeartbeats 4000000 in
set_option maxRecDepth 100000 in
theorem M_w_put {l : Launch} (hT : ∀ e, l.admits e → e.platform.stackTraces = false) {D : va_G} {cA : Nat → ClassId} {b : Nat} {ad : Nat → Nat} {x1 : Int32} {x2 : Int32} {x3 : Int32} {Z : ST} {rr : ST × Int32} (h : w_put x1 x2 x3 Z = some rr) : Met l y_w_put (Cond.codeWith y_w_put method_8_code 5 (some .int) [(0, 7, 10, 19)] :: TW) { frames := 8, cells := 1, slots := 6, locals := 143 } (va_Pc [.ref (b + 0), .int x1, .int x2, .int x3] (RpY D cA b ad Z)) (Qr D cA b ad rr.1 (some (.int rr.2))) 1 6 (Ab b) := by
  obtain ⟨C, M, o⟩ := Z
  refine Ct_ofW (by decide) (Nat.le_of_ble_eq_true rfl) ?_
  intro p e R s m args below meth c ls Q H locs hR hQ hx hb hts hown hml hr hlk hC hY hX hS hl hex
  have hRf : R.frames = 8 := by rw [hR]
  have hRl : R.locals = 143 := by rw [hR]
  have hown : s.vm.findClass "TypeGuardLaw" = some m.cls := hown
  have hl : lv_has ls 5 [(0, .ref (b + 0)), (1, .int x1), (2, .int x2), (3, .int x3)] := hl
  rw [w_put] at h
  obtain ⟨q, hc, h⟩ := Option.bind_eq_some_iff.mp h
  refine lv_aload_n hx hb d_w_put_0 rfl (lv_at hl 0 rfl) ?_
  refine lv_iload_n hx hb d_w_put_1 rfl (lv_at hl 1 rfl) ?_
  refine lv_iload_n hx hb d_w_put_2 rfl (lv_at hl 2 rfl) ?_
  refine lv_iload_n hx hb d_w_put_3 rfl (lv_at hl 3 rfl) ?_
  by_cases h0 : q.2.1 = 0
  · rw [if_pos h0] at h
    obtain rfl := Option.some.inj h
    have hM := M_cG_put hT (D := D) (cA := cA) (b := b) (ad := ad) (T := (M, o)) hc
    rw [h0] at hM
    refine ck_T (As := [.int x1, .int x2, .int x3]) (rest := []) (st1 := []) hM t_907 t_908 t_909 t_910 t_1 hx hb hts hown hC hY hX hS (hrc_c0 hC hX (by rfl)) hml hl.1 ⟨by rw [hRf]; decide, by rw [hRl]; decide⟩ ⟨rfl, rfl⟩ (n := 3) (by decide +kernel) rfl rfl rfl (lv_room (Nat.le_of_ble_eq_true rfl)) d_w_put_4 ⟨by rw [hR]; decide, by rw [hR]; decide⟩ (fun H locs hX hS => ?_)
    refine lv_goto hx hb d_w_put_7 (tgt := 14) (by decide) ?_
    refine lv_iconst (v := 0) hx hb d_w_put_14 (by decide) ?_
    exact rt_i hQ hx hb hr hX hS hlk d_w_put_15
  · rw [if_neg h0] at h
    have hM := M_cG_put hT (D := D) (cA := cA) (b := b) (ad := ad) (T := (M, o)) hc
    by_cases h2 : q.2.1 = 2
    · rw [if_pos h2] at h
      cases h
    · rw [if_neg h2] at h
      obtain rfl := Option.some.inj h
      refine ck_X (As := [.int x1, .int x2, .int x3]) (rest := []) h0 hM t_907 t_908 t_909 t_910 t_1 hx hb hts hown hC hY hX hS (hrc_c0 hC hX (by rfl)) hml hl.1 ⟨by rw [hRf]; decide, by rw [hRl]; decide⟩ ⟨rfl, rfl⟩ (n := 3) (by decide +kernel) rfl rfl (lv_room (Nat.le_of_ble_eq_true rfl)) d_w_put_4 ⟨by rw [hR]; decide, by rw [hR]; decide⟩ (by rw [exN_1 h2]; exact hf_one rfl hex ⟨Nat.le_of_ble_eq_true rfl, Nat.le_of_ble_eq_true rfl⟩ (by decide) hown (hts _ t_830) (hY.1 _ f_1)) (fun H locs x hX hS => ?_)
      refine lv_astore (lv' := [(4, .ref x), (0, .ref (b + 0)), (1, .int x1), (2, .int x2), (3, .int x3)]) hx hb d_w_put_10 hl (by decide) rfl (fun ls hl => ?_)
      refine lv_iconst (v := 1) hx hb d_w_put_12 (by decide) ?_
      exact rt_i hQ hx hb hr hX hS hlk d_w_put_13
abbrev y_w_ask : MethodName := ({ cls := "TypeGuardLaw", name := "ask", desc := "(LTypeGuard;III[J)I" } : Jvm.MethodName)
theorem d_w_ask_0 : decode method_9_code 0 = .ok (.aload 4, 2) := by decide +kernel
theorem d_w_ask_2 : decode method_9_code 2 = .ok (.iconst 0, 1) := by decide +kernel
theorem d_w_ask_3 : decode method_9_code 3 = .ok (.aload_n 0, 1) := by decide +kernel
theorem d_w_ask_4 : decode method_9_code 4 = .ok (.iload_n 1, 1) := by decide +kernel
theorem d_w_ask_5 : decode method_9_code 5 = .ok (.iload_n 2, 1) := by decide +kernel
theorem d_w_ask_6 : decode method_9_code 6 = .ok (.iload_n 3, 1) := by decide +kernel
theorem d_w_ask_7 : decode method_9_code 7 = .ok (.invokevirtual 36, 3) := by decide +kernel
theorem d_w_ask_10 : decode method_9_code 10 = .ok (.ifCond .eq 7, 3) := by decide +kernel
theorem d_w_ask_13 : decode method_9_code 13 = .ok (.lconst 1, 1) := by decide +kernel
theorem d_w_ask_14 : decode method_9_code 14 = .ok (.goto 4, 3) := by decide +kernel
theorem d_w_ask_17 : decode method_9_code 17 = .ok (.lconst 0, 1) := by decide +kernel
theorem d_w_ask_18 : decode method_9_code 18 = .ok (.lastore, 1) := by decide +kernel
theorem d_w_ask_19 : decode method_9_code 19 = .ok (.goto 7, 3) := by decide +kernel
theorem d_w_ask_22 : decode method_9_code 22 = .ok (.astore 5, 2) := by decide +kernel
theorem d_w_ask_24 : decode method_9_code 24 = .ok (.iconst 1, 1) := by decide +kernel
theorem d_w_ask_25 : decode method_9_code 25 = .ok (.ireturn, 1) := by decide +kernel
theorem d_w_ask_26 : decode method_9_code 26 = .ok (.iconst 0, 1) := by decide +kernel
theorem d_w_ask_27 : decode method_9_code 27 = .ok (.ireturn, 1) := by decide +kernel
def w_ask (x1 : Int32) (x2 : Int32) (x3 : Int32) (Z : ST) : Option (ST × Int32) := ((cG_ask x1 x2 x3 Z.1).bind fun q => (if q.2.1 = 0 then some ((q.1, Z.2.1, va_up Z.2.2 0 (if q.2.2 = true then 1 else 0)), 0) else (if q.2.1 = 2 then none else some ((q.1, Z.2), 1))))
set_option maxHeartbeats 4000000 in
set_option maxRecDepth 100000 in
theorem M_w_ask {l : Launch} (hT : ∀ e, l.admits e → e.platform.stackTraces = false) {D : va_G} {cA : Nat → ClassId} {b : Nat} {ad : Nat → Nat} {x1 : Int32} {x2 : Int32} {x3 : Int32} {Z : ST} {rr : ST × Int32} (h : w_ask x1 x2 x3 Z = some rr) : Met l y_w_ask (Cond.codeWith y_w_ask method_9_code 6 (some .int) [(0, 19, 22, 19)] :: TW) { frames := 8, cells := 1, slots := 6, locals := 166 } (va_Pc [.ref (b + 0), .int x1, .int x2, .int x3, .ref (b + 293)] (RpY D cA b ad Z)) (Qr D cA b ad rr.1 (some (.int rr.2))) 1 6 (Ab b) := by
  obtain ⟨C, M, o⟩ := Z
  refine Ct_ofW (by decide) (Nat.le_of_ble_eq_true rfl) ?_
  intro p e R s m args below meth c ls Q H locs hR hQ hx hb hts hown hml hr hlk hC hY hX hS hl hex
  have hRf : R.frames = 8 := by rw [hR]
  have hRl : R.locals = 166 := by rw [hR]
  have hown : s.vm.findClass "TypeGuardLaw" = some m.cls := hown
  have hl : lv_has ls 6 [(0, .ref (b + 0)), (1, .int x1), (2, .int x2), (3, .int x3), (4, .ref (b + 293))] := hl
  rw [w_ask] at h
  obtain ⟨q, hc, h⟩ := Option.bind_eq_some_iff.mp h
  refine lv_aload hx hb d_w_ask_0 (lv_at hl 4 rfl) ?_
  refine lv_iconst (v := 0) hx hb d_w_ask_2 (by decide) ?_
  refine lv_aload_n hx hb d_w_ask_3 rfl (lv_at hl 0 rfl) ?_
  refine lv_iload_n hx hb d_w_ask_4 rfl (lv_at hl 1 rfl) ?_
  refine lv_iload_n hx hb d_w_ask_5 rfl (lv_at hl 2 rfl) ?_
  refine lv_iload_n hx hb d_w_ask_6 rfl (lv_at hl 3 rfl) ?_
  by_cases h0 : q.2.1 = 0
  · rw [if_pos h0] at h
    obtain rfl := Option.some.inj h
    have hM := M_cG_ask hT (D := D) (cA := cA) (b := b) (ad := ad) (T := (M, o)) hc
    rw [h0] at hM
    refine ck_T (As := [.int x1, .int x2, .int x3]) (rest := [.int 0, .ref (b + 293)]) (st1 := [.int (bI q.2.2), .int 0, .ref (b + 293)]) hM t_914 t_915 t_916 t_917 t_1 hx hb hts hown hC hY hX hS (hrc_c0 hC hX (by rfl)) hml hl.1 ⟨by rw [hRf]; decide, by rw [hRl]; decide⟩ ⟨rfl, rfl⟩ (n := 3) (by decide +kernel) rfl rfl rfl (lv_room (Nat.le_of_ble_eq_true rfl)) d_w_ask_7 ⟨by rw [hR]; decide, by rw [hR]; decide⟩ (fun H locs hX hS => ?_)
    have hQ := hQ
    refine lz_ifeq hx hb d_w_ask_10 (tgt := 17) (by decide) (fun hz => ?_) (fun hz => ?_)
    · rw [if_neg hz] at hQ
      refine lv_lconst (v := 0) hx hb d_w_ask_17 (by decide) ?_
      refine o_ast hx hb hC hX hS d_w_ask_18 (fun H locs hX hS => ?_)
      refine lv_goto hx hb d_w_ask_19 (tgt := 26) (by decide) ?_
      refine lv_iconst (v := 0) hx hb d_w_ask_26 (by decide) ?_
      exact rt_i hQ hx hb hr hX hS hlk d_w_ask_27
    · rw [if_pos hz] at hQ
      refine lv_lconst (v := 1) hx hb d_w_ask_13 (by decide) ?_
      refine lv_goto hx hb d_w_ask_14 (tgt := 18) (by decide) ?_
      refine o_ast hx hb hC hX hS d_w_ask_18 (fun H locs hX hS => ?_)
      refine lv_goto hx hb d_w_ask_19 (tgt := 26) (by decide) ?_
      refine lv_iconst (v := 0) hx hb d_w_ask_26 (by decide) ?_
      exact rt_i hQ hx hb hr hX hS hlk d_w_ask_27
  · rw [if_neg h0] at h
    have hM := M_cG_ask hT (D := D) (cA := cA) (b := b) (ad := ad) (T := (M, o)) hc
    by_cases h2 : q.2.1 = 2
    · rw [if_pos h2] at h
      cases h
    · rw [if_neg h2] at h
      obtain rfl := Option.some.inj h
      refine ck_X (As := [.int x1, .int x2, .int x3]) (rest := [.int 0, .ref (b + 293)]) h0 hM t_914 t_915 t_916 t_917 t_1 hx hb hts hown hC hY hX hS (hrc_c0 hC hX (by rfl)) hml hl.1 ⟨by rw [hRf]; decide, by rw [hRl]; decide⟩ ⟨rfl, rfl⟩ (n := 3) (by decide +kernel) rfl rfl (lv_room (Nat.le_of_ble_eq_true rfl)) d_w_ask_7 ⟨by rw [hR]; decide, by rw [hR]; decide⟩ (by rw [exN_1 h2]; exact hf_one rfl hex ⟨Nat.le_of_ble_eq_true rfl, Nat.le_of_ble_eq_true rfl⟩ (by decide) hown (hts _ t_830) (hY.1 _ f_1)) (fun H locs x hX hS => ?_)
      refine lv_astore (lv' := [(5, .ref x), (0, .ref (b + 0)), (1, .int x1), (2, .int x2), (3, .int x3), (4, .ref (b + 293))]) hx hb d_w_ask_22 hl (by decide) rfl (fun ls hl => ?_)
      refine lv_iconst (v := 1) hx hb d_w_ask_24 (by decide) ?_
      exact rt_i hQ hx hb hr hX hS hlk d_w_ask_25
abbrev y_w_run : MethodName := ({ cls := "TypeGuardLaw", name := "run", desc := "(LTypeGuard;II[J)I" } : Jvm.MethodName)
theorem d_w_run_0 : decode method_10_code 0 = .ok (.aload_n 3, 1) := by decide +kernel
theorem d_w_run_1 : decode method_10_code 1 = .ok (.iconst 0, 1) := by decide +kernel
theorem d_w_run_2 : decode method_10_code 2 = .ok (.aload_n 0, 1) := by decide +kernel
theorem d_w_run_3 : decode method_10_code 3 = .ok (.iload_n 1, 1) := by decide +kernel
theorem d_w_run_4 : decode method_10_code 4 = .ok (.iload_n 2, 1) := by decide +kernel
theorem d_w_run_5 : decode method_10_code 5 = .ok (.invokevirtual 40, 3) := by decide +kernel
theorem d_w_run_8 : decode method_10_code 8 = .ok (.i2l, 1) := by decide +kernel
theorem d_w_run_9 : decode method_10_code 9 = .ok (.lastore, 1) := by decide +kernel
theorem d_w_run_10 : decode method_10_code 10 = .ok (.goto 11, 3) := by decide +kernel
theorem d_w_run_13 : decode method_10_code 13 = .ok (.astore 4, 2) := by decide +kernel
theorem d_w_run_15 : decode method_10_code 15 = .ok (.iconst 1, 1) := by decide +kernel
theorem d_w_run_16 : decode method_10_code 16 = .ok (.ireturn, 1) := by decide +kernel
theorem d_w_run_17 : decode method_10_code 17 = .ok (.astore 4, 2) := by decide +kernel
theorem d_w_run_19 : decode method_10_code 19 = .ok (.iconst 2, 1) := by decide +kernel
theorem d_w_run_20 : decode method_10_code 20 = .ok (.ireturn, 1) := by decide +kernel
theorem d_w_run_21 : decode method_10_code 21 = .ok (.iconst 0, 1) := by decide +kernel
theorem d_w_run_22 : decode method_10_code 22 = .ok (.ireturn, 1) := by decide +kernel
def w_run (x1 : Int32) (x2 : Int32) (Z : ST) : Option (ST × Int32) := ((cG_run x1 x2 Z.1).bind fun q => (if q.2.1 = 0 then some ((q.1, Z.2.1, va_up Z.2.2 0 q.2.2.toInt64), 0) else (if q.2.1 = 2 then some ((q.1, Z.2), 2) else some ((q.1, Z.2), 1))))
set_option maxHeartbeats 4000000 in
set_option maxRecDepth 100000 in
theorem M_w_run {l : Launch} (hT : ∀ e, l.admits e → e.platform.stackTraces = false) {D : va_G} {cA : Nat → ClassId} {b : Nat} {ad : Nat → Nat} {x1 : Int32} {x2 : Int32} {Z : ST} {rr : ST × Int32} (h : w_run x1 x2 Z = some rr) : Met l y_w_run (Cond.codeWith y_w_run method_10_code 5 (some .int) [(0, 10, 13, 19), (0, 10, 17, 44)] :: TW) { frames := 8, cells := 1, slots := 6, locals := 169 } (va_Pc [.ref (b + 0), .int x1, .int x2, .ref (b + 293)] (RpY D cA b ad Z)) (Qr D cA b ad rr.1 (some (.int rr.2))) 1 6 (Ab b) := by
  obtain ⟨C, M, o⟩ := Z
  refine Ct_ofW (by decide) (Nat.le_of_ble_eq_true rfl) ?_
  intro p e R s m args below meth c ls Q H locs hR hQ hx hb hts hown hml hr hlk hC hY hX hS hl hex
  have hRf : R.frames = 8 := by rw [hR]
  have hRl : R.locals = 169 := by rw [hR]
  have hown : s.vm.findClass "TypeGuardLaw" = some m.cls := hown
  have hl : lv_has ls 5 [(0, .ref (b + 0)), (1, .int x1), (2, .int x2), (3, .ref (b + 293))] := hl
  rw [w_run] at h
  obtain ⟨q, hc, h⟩ := Option.bind_eq_some_iff.mp h
  refine lv_aload_n hx hb d_w_run_0 rfl (lv_at hl 3 rfl) ?_
  refine lv_iconst (v := 0) hx hb d_w_run_1 (by decide) ?_
  refine lv_aload_n hx hb d_w_run_2 rfl (lv_at hl 0 rfl) ?_
  refine lv_iload_n hx hb d_w_run_3 rfl (lv_at hl 1 rfl) ?_
  refine lv_iload_n hx hb d_w_run_4 rfl (lv_at hl 2 rfl) ?_
  by_cases h0 : q.2.1 = 0
  · rw [if_pos h0] at h
    obtain rfl := Option.some.inj h
    have hM := M_cG_run hT (D := D) (cA := cA) (b := b) (ad := ad) (T := (M, o)) hc
    rw [h0] at hM
    refine ck_T (As := [.int x1, .int x2]) (rest := [.int 0, .ref (b + 293)]) (st1 := [.int q.2.2, .int 0, .ref (b + 293)]) hM t_951 t_952 t_953 t_954 t_1 hx hb hts hown hC hY hX hS (hrc_c0 hC hX (by rfl)) hml hl.1 ⟨by rw [hRf]; decide, by rw [hRl]; decide⟩ ⟨rfl, rfl⟩ (n := 2) (by decide +kernel) rfl rfl rfl (lv_room (Nat.le_of_ble_eq_true rfl)) d_w_run_5 ⟨by rw [hR]; decide, by rw [hR]; decide⟩ (fun H locs hX hS => ?_)
    refine lv_i2l (v := q.2.2.toInt64) hx hb d_w_run_8 rfl ?_
    refine o_ast hx hb hC hX hS d_w_run_9 (fun H locs hX hS => ?_)
    refine lv_goto hx hb d_w_run_10 (tgt := 21) (by decide) ?_
    refine lv_iconst (v := 0) hx hb d_w_run_21 (by decide) ?_
    exact rt_i hQ hx hb hr hX hS hlk d_w_run_22
  · rw [if_neg h0] at h
    have hM := M_cG_run hT (D := D) (cA := cA) (b := b) (ad := ad) (T := (M, o)) hc
    by_cases h2 : q.2.1 = 2
    · rw [if_pos h2] at h
      obtain rfl := Option.some.inj h
      refine ck_X (As := [.int x1, .int x2]) (rest := [.int 0, .ref (b + 293)]) h0 hM t_951 t_952 t_953 t_954 t_1 hx hb hts hown hC hY hX hS (hrc_c0 hC hX (by rfl)) hml hl.1 ⟨by rw [hRf]; decide, by rw [hRl]; decide⟩ ⟨rfl, rfl⟩ (n := 2) (by decide +kernel) rfl rfl (lv_room (Nat.le_of_ble_eq_true rfl)) d_w_run_5 ⟨by rw [hR]; decide, by rw [hR]; decide⟩ (by rw [exN_2 h2]; exact hf_two rfl hex ⟨Nat.le_of_ble_eq_true rfl, Nat.le_of_ble_eq_true rfl⟩ (by decide) (by decide) hown (hts _ t_830) (hts _ t_950) (hY.1 _ f_2) hY.2.2.2) (fun H locs x hX hS => ?_)
      refine lv_astore (lv' := [(4, .ref x), (0, .ref (b + 0)), (1, .int x1), (2, .int x2), (3, .ref (b + 293))]) hx hb d_w_run_17 hl (by decide) rfl (fun ls hl => ?_)
      refine lv_iconst (v := 2) hx hb d_w_run_19 (by decide) ?_
      exact rt_i hQ hx hb hr hX hS hlk d_w_run_20
    · rw [if_neg h2] at h
      obtain rfl := Option.some.inj h
      refine ck_X (As := [.int x1, .int x2]) (rest := [.int 0, .ref (b + 293)]) h0 hM t_951 t_952 t_953 t_954 t_1 hx hb hts hown hC hY hX hS (hrc_c0 hC hX (by rfl)) hml hl.1 ⟨by rw [hRf]; decide, by rw [hRl]; decide⟩ ⟨rfl, rfl⟩ (n := 2) (by decide +kernel) rfl rfl (lv_room (Nat.le_of_ble_eq_true rfl)) d_w_run_5 ⟨by rw [hR]; decide, by rw [hR]; decide⟩ (by rw [exN_1 h2]; exact hf_twoF rfl hex ⟨Nat.le_of_ble_eq_true rfl, Nat.le_of_ble_eq_true rfl⟩ (by decide) hown (hts _ t_830) (hY.1 _ f_1)) (fun H locs x hX hS => ?_)
      refine lv_astore (lv' := [(4, .ref x), (0, .ref (b + 0)), (1, .int x1), (2, .int x2), (3, .ref (b + 293))]) hx hb d_w_run_13 hl (by decide) rfl (fun ls hl => ?_)
      refine lv_iconst (v := 1) hx hb d_w_run_15 (by decide) ?_
      exact rt_i hQ hx hb hr hX hS hlk d_w_run_16
abbrev y_w_make : MethodName := ({ cls := "TypeGuardLaw", name := "make", desc := "(LTypeGuard;III[J)I" } : Jvm.MethodName)
theorem d_w_make_0 : decode method_11_code 0 = .ok (.aload 4, 2) := by decide +kernel
theorem d_w_make_2 : decode method_11_code 2 = .ok (.iconst 0, 1) := by decide +kernel
theorem d_w_make_3 : decode method_11_code 3 = .ok (.aload_n 0, 1) := by decide +kernel
theorem d_w_make_4 : decode method_11_code 4 = .ok (.iload_n 1, 1) := by decide +kernel
theorem d_w_make_5 : decode method_11_code 5 = .ok (.iload_n 2, 1) := by decide +kernel
theorem d_w_make_6 : decode method_11_code 6 = .ok (.iload_n 3, 1) := by decide +kernel
theorem d_w_make_7 : decode method_11_code 7 = .ok (.invokevirtual 46, 3) := by decide +kernel
theorem d_w_make_10 : decode method_11_code 10 = .ok (.i2l, 1) := by decide +kernel
theorem d_w_make_11 : decode method_11_code 11 = .ok (.lastore, 1) := by decide +kernel
theorem d_w_make_12 : decode method_11_code 12 = .ok (.goto 11, 3) := by decide +kernel
theorem d_w_make_15 : decode method_11_code 15 = .ok (.astore 5, 2) := by decide +kernel
theorem d_w_make_17 : decode method_11_code 17 = .ok (.iconst 1, 1) := by decide +kernel
theorem d_w_make_18 : decode method_11_code 18 = .ok (.ireturn, 1) := by decide +kernel
theorem d_w_make_19 : decode method_11_code 19 = .ok (.astore 5, 2) := by decide +kernel
theorem d_w_make_21 : decode method_11_code 21 = .ok (.iconst 2, 1) := by decide +kernel
theorem d_w_make_22 : decode method_11_code 22 = .ok (.ireturn, 1) := by decide +kernel
theorem d_w_make_23 : decode method_11_code 23 = .ok (.iconst 0, 1) := by decide +kernel
theorem d_w_make_24 : decode method_11_code 24 = .ok (.ireturn, 1) := by decide +kernel
def w_make (x1 : Int32) (x2 : Int32) (x3 : Int32) (Z : ST) : Option (ST × Int32) := ((cG_make x1 x2 x3 Z.1).bind fun q => (if q.2.1 = 0 then some ((q.1, Z.2.1, va_up Z.2.2 0 q.2.2.toInt64), 0) else (if q.2.1 = 2 then some ((q.1, Z.2), 2) else some ((q.1, Z.2), 1))))
set_option maxHeartbeats 4000000 in
set_option maxRecDepth 100000 in
theorem M_w_make {l : Launch} (hT : ∀ e, l.admits e → e.platform.stackTraces = false) {D : va_G} {cA : Nat → ClassId} {b : Nat} {ad : Nat → Nat} {x1 : Int32} {x2 : Int32} {x3 : Int32} {Z : ST} {rr : ST × Int32} (h : w_make x1 x2 x3 Z = some rr) : Met l y_w_make (Cond.codeWith y_w_make method_11_code 6 (some .int) [(0, 12, 15, 19), (0, 12, 19, 44)] :: TW) { frames := 8, cells := 1, slots := 6, locals := 170 } (va_Pc [.ref (b + 0), .int x1, .int x2, .int x3, .ref (b + 293)] (RpY D cA b ad Z)) (Qr D cA b ad rr.1 (some (.int rr.2))) 1 6 (Ab b) := by
  obtain ⟨C, M, o⟩ := Z
  refine Ct_ofW (by decide) (Nat.le_of_ble_eq_true rfl) ?_
  intro p e R s m args below meth c ls Q H locs hR hQ hx hb hts hown hml hr hlk hC hY hX hS hl hex
  have hRf : R.frames = 8 := by rw [hR]
  have hRl : R.locals = 170 := by rw [hR]
  have hown : s.vm.findClass "TypeGuardLaw" = some m.cls := hown
  have hl : lv_has ls 6 [(0, .ref (b + 0)), (1, .int x1), (2, .int x2), (3, .int x3), (4, .ref (b + 293))] := hl
  rw [w_make] at h
  obtain ⟨q, hc, h⟩ := Option.bind_eq_some_iff.mp h
  refine lv_aload hx hb d_w_make_0 (lv_at hl 4 rfl) ?_
  refine lv_iconst (v := 0) hx hb d_w_make_2 (by decide) ?_
  refine lv_aload_n hx hb d_w_make_3 rfl (lv_at hl 0 rfl) ?_
  refine lv_iload_n hx hb d_w_make_4 rfl (lv_at hl 1 rfl) ?_
  refine lv_iload_n hx hb d_w_make_5 rfl (lv_at hl 2 rfl) ?_
  refine lv_iload_n hx hb d_w_make_6 rfl (lv_at hl 3 rfl) ?_
  by_cases h0 : q.2.1 = 0
  · rw [if_pos h0] at h
    obtain rfl := Option.some.inj h
    have hM := M_cG_make hT (D := D) (cA := cA) (b := b) (ad := ad) (T := (M, o)) hc
    rw [h0] at hM
    refine ck_T (As := [.int x1, .int x2, .int x3]) (rest := [.int 0, .ref (b + 293)]) (st1 := [.int q.2.2, .int 0, .ref (b + 293)]) hM t_977 t_978 t_979 t_980 t_1 hx hb hts hown hC hY hX hS (hrc_c0 hC hX (by rfl)) hml hl.1 ⟨by rw [hRf]; decide, by rw [hRl]; decide⟩ ⟨rfl, rfl⟩ (n := 3) (by decide +kernel) rfl rfl rfl (lv_room (Nat.le_of_ble_eq_true rfl)) d_w_make_7 ⟨by rw [hR]; decide, by rw [hR]; decide⟩ (fun H locs hX hS => ?_)
    refine lv_i2l (v := q.2.2.toInt64) hx hb d_w_make_10 rfl ?_
    refine o_ast hx hb hC hX hS d_w_make_11 (fun H locs hX hS => ?_)
    refine lv_goto hx hb d_w_make_12 (tgt := 23) (by decide) ?_
    refine lv_iconst (v := 0) hx hb d_w_make_23 (by decide) ?_
    exact rt_i hQ hx hb hr hX hS hlk d_w_make_24
  · rw [if_neg h0] at h
    have hM := M_cG_make hT (D := D) (cA := cA) (b := b) (ad := ad) (T := (M, o)) hc
    by_cases h2 : q.2.1 = 2
    · rw [if_pos h2] at h
      obtain rfl := Option.some.inj h
      refine ck_X (As := [.int x1, .int x2, .int x3]) (rest := [.int 0, .ref (b + 293)]) h0 hM t_977 t_978 t_979 t_980 t_1 hx hb hts hown hC hY hX hS (hrc_c0 hC hX (by rfl)) hml hl.1 ⟨by rw [hRf]; decide, by rw [hRl]; decide⟩ ⟨rfl, rfl⟩ (n := 3) (by decide +kernel) rfl rfl (lv_room (Nat.le_of_ble_eq_true rfl)) d_w_make_7 ⟨by rw [hR]; decide, by rw [hR]; decide⟩ (by rw [exN_2 h2]; exact hf_two rfl hex ⟨Nat.le_of_ble_eq_true rfl, Nat.le_of_ble_eq_true rfl⟩ (by decide) (by decide) hown (hts _ t_830) (hts _ t_950) (hY.1 _ f_2) hY.2.2.2) (fun H locs x hX hS => ?_)
      refine lv_astore (lv' := [(5, .ref x), (0, .ref (b + 0)), (1, .int x1), (2, .int x2), (3, .int x3), (4, .ref (b + 293))]) hx hb d_w_make_19 hl (by decide) rfl (fun ls hl => ?_)
      refine lv_iconst (v := 2) hx hb d_w_make_21 (by decide) ?_
      exact rt_i hQ hx hb hr hX hS hlk d_w_make_22
    · rw [if_neg h2] at h
      obtain rfl := Option.some.inj h
      refine ck_X (As := [.int x1, .int x2, .int x3]) (rest := [.int 0, .ref (b + 293)]) h0 hM t_977 t_978 t_979 t_980 t_1 hx hb hts hown hC hY hX hS (hrc_c0 hC hX (by rfl)) hml hl.1 ⟨by rw [hRf]; decide, by rw [hRl]; decide⟩ ⟨rfl, rfl⟩ (n := 3) (by decide +kernel) rfl rfl (lv_room (Nat.le_of_ble_eq_true rfl)) d_w_make_7 ⟨by rw [hR]; decide, by rw [hR]; decide⟩ (by rw [exN_1 h2]; exact hf_twoF rfl hex ⟨Nat.le_of_ble_eq_true rfl, Nat.le_of_ble_eq_true rfl⟩ (by decide) hown (hts _ t_830) (hY.1 _ f_1)) (fun H locs x hX hS => ?_)
      refine lv_astore (lv' := [(5, .ref x), (0, .ref (b + 0)), (1, .int x1), (2, .int x2), (3, .int x3), (4, .ref (b + 293))]) hx hb d_w_make_15 hl (by decide) rfl (fun ls hl => ?_)
      refine lv_iconst (v := 1) hx hb d_w_make_17 (by decide) ?_
      exact rt_i hQ hx hb hr hX hS hlk d_w_make_18
