abbrev y_jString_isLatin10 : MethodName := ({ cls := "java/lang/String", name := "isLatin1", desc := "()Z" } : Jvm.MethodName)
theorem d_jString_isLatin10_0 : decode prog_21_method_154_code 0 = .ok (.getstatic 38, 3) := by decide +kernel
theorem d_jString_isLatin10_3 : decode prog_21_method_154_code 3 = .ok (.ifCond .eq 14, 3) := by decide +kernel
theorem d_jString_isLatin10_6 : decode prog_21_method_154_code 6 = .ok (.aload_n 0, 1) := by decide +kernel
theorem d_jString_isLatin10_7 : decode prog_21_method_154_code 7 = .ok (.getfield 15, 3) := by decide +kernel
theorem d_jString_isLatin10_10 : decode prog_21_method_154_code 10 = .ok (.ifCond .ne 7, 3) := by decide +kernel
theorem d_jString_isLatin10_13 : decode prog_21_method_154_code 13 = .ok (.iconst 1, 1) := by decide +kernel
theorem d_jString_isLatin10_14 : decode prog_21_method_154_code 14 = .ok (.goto 4, 3) := by decide +kernel
theorem d_jString_isLatin10_17 : decode prog_21_method_154_code 17 = .ok (.iconst 0, 1) := by decide +kernel
theorem d_jString_isLatin10_18 : decode prog_21_method_154_code 18 = .ok (.ireturn, 1) := by decide +kernel
def jString_isLatin10  : Option Bool := (if true = true then (if (0 : Int32) = 0 then some true else some false) else some false)
set_option maxHeartbeats 4000000 in
set_option maxRecDepth 100000 in
theorem M_jString_isLatin10 {l : Launch} {D : va_G} {cA : Nat → ClassId} {b : Nat} {ad : Nat → Nat}  {S : CS} {T : MS × (Nat → Int64)} {rr : Bool}  (h : jString_isLatin10  = some rr) : Met l y_jString_isLatin10 (Cond.code y_jString_isLatin10 prog_21_method_154_code 1 (Option.some Jvm.ClassFile.FieldType.boolean) :: TW) { frames := 0, cells := 0, slots := 0, locals := 0 } (va_Pc [.ref (ad 17)] (Rp D cA b ad (S, T))) (Qr D cA b ad (S, T) (some (.int (bI rr)))) 0 0 (Ab b) := by
  refine Ct_of (by decide) (Nat.le_of_ble_eq_true rfl) ?_
  intro p e R s m args below meth c ls Q H locs hR hQ hx hb hts hown hml hr hlk hC hX hS hl
  have hRf : R.frames = 0 := by rw [hR]
  have hRl : R.locals = 0 := by rw [hR]
  have hown : s.vm.findClass "java/lang/String" = some m.cls := hown
  have hl : lv_has ls 1 [(0, .ref (ad 17))] := hl
  rw [jString_isLatin10] at h
  refine st_cs hx hb hC hS hown (hts _ t_465) d_jString_isLatin10_0 ?_
  refine lz_ifeq hx hb d_jString_isLatin10_3 (tgt := 17) (by decide) (fun hc => ?_) (fun hc => ?_)
  · rw [if_neg hc] at h
    refine lv_iconst (v := 0) hx hb d_jString_isLatin10_17 (by decide) ?_
    obtain rfl := Option.some.inj h
    exact rt_zf hQ hx hb hr hX hS hlk d_jString_isLatin10_18
  · rw [if_pos hc] at h
    refine lv_aload_n hx hb d_jString_isLatin10_6 rfl (lv_at hl 0 rfl) ?_
    refine st_scod hx hb hC hS hown (hts _ t_1392) d_jString_isLatin10_7 ?_
    refine lv_if_ne hx hb d_jString_isLatin10_10 (tgt := 17) (by decide) (fun hc => ?_) (fun hc => ?_)
    · rw [if_neg hc] at h
      refine lv_iconst (v := 0) hx hb d_jString_isLatin10_17 (by decide) ?_
      obtain rfl := Option.some.inj h
      exact rt_zf hQ hx hb hr hX hS hlk d_jString_isLatin10_18
    · rw [if_pos hc] at h
      refine lv_iconst (v := 1) hx hb d_jString_isLatin10_13 (by decide) ?_
      refine lv_goto hx hb d_jString_isLatin10_14 (tgt := 18) (by decide) ?_
      obtain rfl := Option.some.inj h
      exact rt_zt hQ hx hb hr hX hS hlk d_jString_isLatin10_18
abbrev y_jString_coder0 : MethodName := ({ cls := "java/lang/String", name := "coder", desc := "()B" } : Jvm.MethodName)
theorem d_jString_coder0_0 : decode prog_21_method_152_code 0 = .ok (.getstatic 38, 3) := by decide +kernel
theorem d_jString_coder0_3 : decode prog_21_method_152_code 3 = .ok (.ifCond .eq 10, 3) := by decide +kernel
theorem d_jString_coder0_6 : decode prog_21_method_152_code 6 = .ok (.aload_n 0, 1) := by decide +kernel
theorem d_jString_coder0_7 : decode prog_21_method_152_code 7 = .ok (.getfield 15, 3) := by decide +kernel
theorem d_jString_coder0_10 : decode prog_21_method_152_code 10 = .ok (.goto 4, 3) := by decide +kernel
theorem d_jString_coder0_13 : decode prog_21_method_152_code 13 = .ok (.iconst 1, 1) := by decide +kernel
theorem d_jString_coder0_14 : decode prog_21_method_152_code 14 = .ok (.ireturn, 1) := by decide +kernel
def jString_coder0  : Option Int32 := (if true = true then some 0 else some 1)
set_option maxHeartbeats 4000000 in
set_option maxRecDepth 100000 in
theorem M_jString_coder0 {l : Launch} {D : va_G} {cA : Nat → ClassId} {b : Nat} {ad : Nat → Nat}  {S : CS} {T : MS × (Nat → Int64)} {rr : Int32}  (h : jString_coder0  = some rr) : Met l y_jString_coder0 (Cond.code y_jString_coder0 prog_21_method_152_code 1 (Option.some Jvm.ClassFile.FieldType.byte) :: TW) { frames := 0, cells := 0, slots := 0, locals := 0 } (va_Pc [.ref (ad 17)] (Rp D cA b ad (S, T))) (Qr D cA b ad (S, T) (some (.int rr))) 0 0 (Ab b) := by
  refine Ct_of (by decide) (Nat.le_of_ble_eq_true rfl) ?_
  intro p e R s m args below meth c ls Q H locs hR hQ hx hb hts hown hml hr hlk hC hX hS hl
  have hRf : R.frames = 0 := by rw [hR]
  have hRl : R.locals = 0 := by rw [hR]
  have hown : s.vm.findClass "java/lang/String" = some m.cls := hown
  have hl : lv_has ls 1 [(0, .ref (ad 17))] := hl
  rw [jString_coder0] at h
  refine st_cs hx hb hC hS hown (hts _ t_465) d_jString_coder0_0 ?_
  refine lz_ifeq hx hb d_jString_coder0_3 (tgt := 13) (by decide) (fun hc => ?_) (fun hc => ?_)
  · rw [if_neg hc] at h
    refine lv_iconst (v := 1) hx hb d_jString_coder0_13 (by decide) ?_
    obtain rfl := Option.some.inj h
    exact rt_b hQ hx hb hr (by decide) hX hS hlk d_jString_coder0_14
  · rw [if_pos hc] at h
    refine lv_aload_n hx hb d_jString_coder0_6 rfl (lv_at hl 0 rfl) ?_
    refine st_scod hx hb hC hS hown (hts _ t_1392) d_jString_coder0_7 ?_
    refine lv_goto hx hb d_jString_coder0_10 (tgt := 14) (by decide) ?_
    obtain rfl := Option.some.inj h
    exact rt_b hQ hx hb hr (by decide) hX hS hlk d_jString_coder0_14
abbrev y_jString_length0 : MethodName := ({ cls := "java/lang/String", name := "length", desc := "()I" } : Jvm.MethodName)
theorem d_jString_length0_0 : decode prog_21_method_54_code 0 = .ok (.aload_n 0, 1) := by decide +kernel
theorem d_jString_length0_1 : decode prog_21_method_54_code 1 = .ok (.getfield 9, 3) := by decide +kernel
theorem d_jString_length0_4 : decode prog_21_method_54_code 4 = .ok (.arraylength, 1) := by decide +kernel
theorem d_jString_length0_5 : decode prog_21_method_54_code 5 = .ok (.aload_n 0, 1) := by decide +kernel
theorem d_jString_length0_6 : decode prog_21_method_54_code 6 = .ok (.invokevirtual 335, 3) := by decide +kernel
theorem d_jString_length0_9 : decode prog_21_method_54_code 9 = .ok (.ishr, 1) := by decide +kernel
theorem d_jString_length0_10 : decode prog_21_method_54_code 10 = .ok (.ireturn, 1) := by decide +kernel
def jString_length0  : Option Int32 := ((jString_coder0 ).bind fun q6 => some (8 >>> (q6 &&& 31)))
set_option maxHeartbeats 4000000 in
set_option maxRecDepth 100000 in
theorem M_jString_length0 {l : Launch} {D : va_G} {cA : Nat → ClassId} {b : Nat} {ad : Nat → Nat}  {S : CS} {T : MS × (Nat → Int64)} {rr : Int32}  (h : jString_length0  = some rr) : Met l y_jString_length0 (Cond.code y_jString_length0 prog_21_method_54_code 1 (Option.some Jvm.ClassFile.FieldType.int) :: TW) { frames := 1, cells := 0, slots := 0, locals := 20 } (va_Pc [.ref (ad 17)] (Rp D cA b ad (S, T))) (Qr D cA b ad (S, T) (some (.int rr))) 0 0 (Ab b) := by
  refine Ct_of (by decide) (Nat.le_of_ble_eq_true rfl) ?_
  intro p e R s m args below meth c ls Q H locs hR hQ hx hb hts hown hml hr hlk hC hX hS hl
  have hRf : R.frames = 1 := by rw [hR]
  have hRl : R.locals = 20 := by rw [hR]
  have hown : s.vm.findClass "java/lang/String" = some m.cls := hown
  have hl : lv_has ls 1 [(0, .ref (ad 17))] := hl
  rw [jString_length0] at h
  refine lv_aload_n hx hb d_jString_length0_0 rfl (lv_at hl 0 rfl) ?_
  refine st_sval hx hb hC hS hown (hts _ t_1393) d_jString_length0_1 ?_
  refine st_blen hx hb hC hS d_jString_length0_4 ?_
  refine lv_aload_n hx hb d_jString_length0_5 rfl (lv_at hl 0 rfl) ?_
  obtain ⟨q6, hc6, h⟩ := Option.bind_eq_some_iff.mp h
  refine ck_V (As := []) (rest := [.int 8]) (st1 := [.int q6, .int 8]) (M_jString_coder0  hc6) t_471 t_472 t_473 t_474 t_14 hx hb hts hown hC hX hS (hrc_str hC hS) hml hl.1 ⟨by rw [hRf]; decide, by rw [hRl]; decide⟩ ⟨rfl, rfl⟩ (n := 0) (by decide +kernel) rfl rfl rfl (lv_room (Nat.le_of_ble_eq_true rfl)) d_jString_length0_6 (fun H locs hX hS => ?_)
  refine lv_ishr hx hb d_jString_length0_9 ?_
  obtain rfl := Option.some.inj h
  exact rt_i hQ hx hb hr hX hS hlk d_jString_length0_10
abbrev y_jStringLatin1_canEncode1 : MethodName := ({ cls := "java/lang/StringLatin1", name := "canEncode", desc := "(I)Z" } : Jvm.MethodName)
theorem d_jStringLatin1_canEncode1_0 : decode prog_22_method_4_code 0 = .ok (.iload_n 0, 1) := by decide +kernel
theorem d_jStringLatin1_canEncode1_1 : decode prog_22_method_4_code 1 = .ok (.ifCond .lt 14, 3) := by decide +kernel
theorem d_jStringLatin1_canEncode1_4 : decode prog_22_method_4_code 4 = .ok (.iload_n 0, 1) := by decide +kernel
theorem d_jStringLatin1_canEncode1_5 : decode prog_22_method_4_code 5 = .ok (.sipush 255, 3) := by decide +kernel
theorem d_jStringLatin1_canEncode1_8 : decode prog_22_method_4_code 8 = .ok (.if_icmp .gt 7, 3) := by decide +kernel
theorem d_jStringLatin1_canEncode1_11 : decode prog_22_method_4_code 11 = .ok (.iconst 1, 1) := by decide +kernel
theorem d_jStringLatin1_canEncode1_12 : decode prog_22_method_4_code 12 = .ok (.goto 4, 3) := by decide +kernel
theorem d_jStringLatin1_canEncode1_15 : decode prog_22_method_4_code 15 = .ok (.iconst 0, 1) := by decide +kernel
theorem d_jStringLatin1_canEncode1_16 : decode prog_22_method_4_code 16 = .ok (.ireturn, 1) := by decide +kernel
def jStringLatin1_canEncode1 (x0 : Int32) : Option Bool := (if x0 < 0 then some false else (if 255 < x0 then some false else some true))
set_option maxHeartbeats 4000000 in
set_option maxRecDepth 100000 in
theorem M_jStringLatin1_canEncode1 {l : Launch} {D : va_G} {cA : Nat → ClassId} {b : Nat} {ad : Nat → Nat} {x0 : Int32} {S : CS} {T : MS × (Nat → Int64)} {rr : Bool}  (h : jStringLatin1_canEncode1 x0 = some rr) : Met l y_jStringLatin1_canEncode1 (Cond.code y_jStringLatin1_canEncode1 prog_22_method_4_code 1 (Option.some Jvm.ClassFile.FieldType.boolean) :: TW) { frames := 0, cells := 0, slots := 0, locals := 0 } (va_Pc [.int x0] (Rp D cA b ad (S, T))) (Qr D cA b ad (S, T) (some (.int (bI rr)))) 0 0 (Ab b) := by
  refine Ct_of (by decide) (Nat.le_of_ble_eq_true rfl) ?_
  intro p e R s m args below meth c ls Q H locs hR hQ hx hb hts hown hml hr hlk hC hX hS hl
  have hRf : R.frames = 0 := by rw [hR]
  have hRl : R.locals = 0 := by rw [hR]
  have hown : s.vm.findClass "java/lang/StringLatin1" = some m.cls := hown
  have hl : lv_has ls 1 [(0, .int x0)] := hl
  rw [jStringLatin1_canEncode1] at h
  refine lv_iload_n hx hb d_jStringLatin1_canEncode1_0 rfl (lv_at hl 0 rfl) ?_
  refine lv_if_lt hx hb d_jStringLatin1_canEncode1_1 (tgt := 15) (by decide) (fun hc => ?_) (fun hc => ?_)
  · rw [if_pos hc] at h
    refine lv_iconst (v := 0) hx hb d_jStringLatin1_canEncode1_15 (by decide) ?_
    obtain rfl := Option.some.inj h
    exact rt_zf hQ hx hb hr hX hS hlk d_jStringLatin1_canEncode1_16
  · rw [if_neg hc] at h
    refine lv_iload_n hx hb d_jStringLatin1_canEncode1_4 rfl (lv_at hl 0 rfl) ?_
    refine lv_sipush (v := 255) hx hb d_jStringLatin1_canEncode1_5 (by decide) ?_
    refine lv_icmp_gt hx hb d_jStringLatin1_canEncode1_8 (tgt := 15) (by decide) (fun hc => ?_) (fun hc => ?_)
    · rw [if_pos hc] at h
      refine lv_iconst (v := 0) hx hb d_jStringLatin1_canEncode1_15 (by decide) ?_
      obtain rfl := Option.some.inj h
      exact rt_zf hQ hx hb hr hX hS hlk d_jStringLatin1_canEncode1_16
    · rw [if_neg hc] at h
      refine lv_iconst (v := 1) hx hb d_jStringLatin1_canEncode1_11 (by decide) ?_
      refine lv_goto hx hb d_jStringLatin1_canEncode1_12 (tgt := 16) (by decide) ?_
      obtain rfl := Option.some.inj h
      exact rt_zt hQ hx hb hr hX hS hlk d_jStringLatin1_canEncode1_16
abbrev y_jMath_max2 : MethodName := ({ cls := "java/lang/Math", name := "max", desc := "(II)I" } : Jvm.MethodName)
theorem d_jMath_max2_0 : decode prog_19_method_65_code 0 = .ok (.iload_n 0, 1) := by decide +kernel
theorem d_jMath_max2_1 : decode prog_19_method_65_code 1 = .ok (.iload_n 1, 1) := by decide +kernel
theorem d_jMath_max2_2 : decode prog_19_method_65_code 2 = .ok (.if_icmp .lt 7, 3) := by decide +kernel
theorem d_jMath_max2_5 : decode prog_19_method_65_code 5 = .ok (.iload_n 0, 1) := by decide +kernel
theorem d_jMath_max2_6 : decode prog_19_method_65_code 6 = .ok (.goto 4, 3) := by decide +kernel
theorem d_jMath_max2_9 : decode prog_19_method_65_code 9 = .ok (.iload_n 1, 1) := by decide +kernel
theorem d_jMath_max2_10 : decode prog_19_method_65_code 10 = .ok (.ireturn, 1) := by decide +kernel
def jMath_max2 (x0 : Int32) (x1 : Int32) : Option Int32 := (if x0 < x1 then some x1 else some x0)
set_option maxHeartbeats 4000000 in
set_option maxRecDepth 100000 in
theorem M_jMath_max2 {l : Launch} {D : va_G} {cA : Nat → ClassId} {b : Nat} {ad : Nat → Nat} {x0 : Int32} {x1 : Int32} {S : CS} {T : MS × (Nat → Int64)} {rr : Int32}  (h : jMath_max2 x0 x1 = some rr) : Met l y_jMath_max2 (Cond.code y_jMath_max2 prog_19_method_65_code 2 (Option.some Jvm.ClassFile.FieldType.int) :: TW) { frames := 0, cells := 0, slots := 0, locals := 0 } (va_Pc [.int x0, .int x1] (Rp D cA b ad (S, T))) (Qr D cA b ad (S, T) (some (.int rr))) 0 0 (Ab b) := by
  refine Ct_ofF (by decide +kernel) (Nat.le_of_ble_eq_true rfl) ?_
  intro p e R s m args below meth c ls Q H locs hR hQ hx hb hts hown hml hr hlk hC hX hS hl
  have hRf : R.frames = 0 := by rw [hR]
  have hRl : R.locals = 0 := by rw [hR]
  have hown : s.vm.findClass "java/lang/Math" = some m.cls := hown
  have hl : lv_has ls 2 [(0, .int x0), (1, .int x1)] := hl
  rw [jMath_max2] at h
  refine lv_iload_n hx hb d_jMath_max2_0 rfl (lv_at hl 0 rfl) ?_
  refine lv_iload_n hx hb d_jMath_max2_1 rfl (lv_at hl 1 rfl) ?_
  refine lv_icmp_lt hx hb d_jMath_max2_2 (tgt := 9) (by decide) (fun hc => ?_) (fun hc => ?_)
  · rw [if_pos hc] at h
    refine lv_iload_n hx hb d_jMath_max2_9 rfl (lv_at hl 1 rfl) ?_
    obtain rfl := Option.some.inj h
    exact rt_i hQ hx hb hr hX hS hlk d_jMath_max2_10
  · rw [if_neg hc] at h
    refine lv_iload_n hx hb d_jMath_max2_5 rfl (lv_at hl 0 rfl) ?_
    refine lv_goto hx hb d_jMath_max2_6 (tgt := 10) (by decide) ?_
    obtain rfl := Option.some.inj h
    exact rt_i hQ hx hb hr hX hS hlk d_jMath_max2_10
abbrev y_jMath_min2 : MethodName := ({ cls := "java/lang/Math", name := "min", desc := "(II)I" } : Jvm.MethodName)
theorem d_jMath_min2_0 : decode prog_19_method_69_code 0 = .ok (.iload_n 0, 1) := by decide +kernel
theorem d_jMath_min2_1 : decode prog_19_method_69_code 1 = .ok (.iload_n 1, 1) := by decide +kernel
theorem d_jMath_min2_2 : decode prog_19_method_69_code 2 = .ok (.if_icmp .gt 7, 3) := by decide +kernel
theorem d_jMath_min2_5 : decode prog_19_method_69_code 5 = .ok (.iload_n 0, 1) := by decide +kernel
theorem d_jMath_min2_6 : decode prog_19_method_69_code 6 = .ok (.goto 4, 3) := by decide +kernel
theorem d_jMath_min2_9 : decode prog_19_method_69_code 9 = .ok (.iload_n 1, 1) := by decide +kernel
theorem d_jMath_min2_10 : decode prog_19_method_69_code 10 = .ok (.ireturn, 1) := by decide +kernel
def jMath_min2 (x0 : Int32) (x1 : Int32) : Option Int32 := (if x1 < x0 then some x1 else some x0)
set_option maxHeartbeats 4000000 in
set_option maxRecDepth 100000 in
theorem M_jMath_min2 {l : Launch} {D : va_G} {cA : Nat → ClassId} {b : Nat} {ad : Nat → Nat} {x0 : Int32} {x1 : Int32} {S : CS} {T : MS × (Nat → Int64)} {rr : Int32}  (h : jMath_min2 x0 x1 = some rr) : Met l y_jMath_min2 (Cond.code y_jMath_min2 prog_19_method_69_code 2 (Option.some Jvm.ClassFile.FieldType.int) :: TW) { frames := 0, cells := 0, slots := 0, locals := 0 } (va_Pc [.int x0, .int x1] (Rp D cA b ad (S, T))) (Qr D cA b ad (S, T) (some (.int rr))) 0 0 (Ab b) := by
  refine Ct_ofF (by decide +kernel) (Nat.le_of_ble_eq_true rfl) ?_
  intro p e R s m args below meth c ls Q H locs hR hQ hx hb hts hown hml hr hlk hC hX hS hl
  have hRf : R.frames = 0 := by rw [hR]
  have hRl : R.locals = 0 := by rw [hR]
  have hown : s.vm.findClass "java/lang/Math" = some m.cls := hown
  have hl : lv_has ls 2 [(0, .int x0), (1, .int x1)] := hl
  rw [jMath_min2] at h
  refine lv_iload_n hx hb d_jMath_min2_0 rfl (lv_at hl 0 rfl) ?_
  refine lv_iload_n hx hb d_jMath_min2_1 rfl (lv_at hl 1 rfl) ?_
  refine lv_icmp_gt hx hb d_jMath_min2_2 (tgt := 9) (by decide) (fun hc => ?_) (fun hc => ?_)
  · rw [if_pos hc] at h
    refine lv_iload_n hx hb d_jMath_min2_9 rfl (lv_at hl 1 rfl) ?_
    obtain rfl := Option.some.inj h
    exact rt_i hQ hx hb hr hX hS hlk d_jMath_min2_10
  · rw [if_neg hc] at h
    refine lv_iload_n hx hb d_jMath_min2_5 rfl (lv_at hl 0 rfl) ?_
    refine lv_goto hx hb d_jMath_min2_6 (tgt := 10) (by decide) ?_
    obtain rfl := Option.some.inj h
    exact rt_i hQ hx hb hr hX hS hlk d_jMath_min2_10
abbrev y_jStringLatin1_indexOfChar4 : MethodName := ({ cls := "java/lang/StringLatin1", name := "indexOfChar", desc := "([BIII)I" } : Jvm.MethodName)
theorem d_jStringLatin1_indexOfChar4_0 : decode prog_22_method_23_code 0 = .ok (.iload_n 1, 1) := by decide +kernel
theorem d_jStringLatin1_indexOfChar4_1 : decode prog_22_method_23_code 1 = .ok (.i2b, 1) := by decide +kernel
theorem d_jStringLatin1_indexOfChar4_2 : decode prog_22_method_23_code 2 = .ok (.istore 4, 2) := by decide +kernel
theorem d_jStringLatin1_indexOfChar4_4 : decode prog_22_method_23_code 4 = .ok (.iload_n 2, 1) := by decide +kernel
theorem d_jStringLatin1_indexOfChar4_5 : decode prog_22_method_23_code 5 = .ok (.istore 5, 2) := by decide +kernel
theorem d_jStringLatin1_indexOfChar4_7 : decode prog_22_method_23_code 7 = .ok (.iload 5, 2) := by decide +kernel
theorem d_jStringLatin1_indexOfChar4_9 : decode prog_22_method_23_code 9 = .ok (.iload_n 3, 1) := by decide +kernel
theorem d_jStringLatin1_indexOfChar4_10 : decode prog_22_method_23_code 10 = .ok (.if_icmp .ge 21, 3) := by decide +kernel
theorem d_jStringLatin1_indexOfChar4_13 : decode prog_22_method_23_code 13 = .ok (.aload_n 0, 1) := by decide +kernel
theorem d_jStringLatin1_indexOfChar4_14 : decode prog_22_method_23_code 14 = .ok (.iload 5, 2) := by decide +kernel
theorem d_jStringLatin1_indexOfChar4_16 : decode prog_22_method_23_code 16 = .ok (.baload, 1) := by decide +kernel
theorem d_jStringLatin1_indexOfChar4_17 : decode prog_22_method_23_code 17 = .ok (.iload 4, 2) := by decide +kernel
theorem d_jStringLatin1_indexOfChar4_19 : decode prog_22_method_23_code 19 = .ok (.if_icmp .ne 6, 3) := by decide +kernel
theorem d_jStringLatin1_indexOfChar4_22 : decode prog_22_method_23_code 22 = .ok (.iload 5, 2) := by decide +kernel
theorem d_jStringLatin1_indexOfChar4_24 : decode prog_22_method_23_code 24 = .ok (.ireturn, 1) := by decide +kernel
theorem d_jStringLatin1_indexOfChar4_25 : decode prog_22_method_23_code 25 = .ok (.iinc 5 1, 3) := by decide +kernel
theorem d_jStringLatin1_indexOfChar4_28 : decode prog_22_method_23_code 28 = .ok (.goto (-21), 3) := by decide +kernel
theorem d_jStringLatin1_indexOfChar4_31 : decode prog_22_method_23_code 31 = .ok (.iconst (-1), 1) := by decide +kernel
theorem d_jStringLatin1_indexOfChar4_32 : decode prog_22_method_23_code 32 = .ok (.ireturn, 1) := by decide +kernel
def jStringLatin1_indexOfChar4_L7 (v3_7 : Int32) (v4_7 : Int32) : Nat → Int32 → Option Int32
  | 0, _ => none
  | n + 1, v5_7 => (if v3_7 ≤ v5_7 then some (-1) else (if inbd v5_7 8 = true then (if (sgb (txN v5_7)) = v4_7 then some v5_7 else (bd ((v5_7 + 1)) fun a25 => (jStringLatin1_indexOfChar4_L7 v3_7 v4_7 n) a25)) else none))
def jStringLatin1_indexOfChar4 (x1 : Int32) (x2 : Int32) (x3 : Int32) : Option Int32 := (bd (((x1).toInt8.toInt32)) fun a2 => jStringLatin1_indexOfChar4_L7 x3 a2 600 x2)
set_option maxHeartbeats 4000000 in
set_option maxRecDepth 100000 in
theorem M_jStringLatin1_indexOfChar4 {l : Launch} {D : va_G} {cA : Nat → ClassId} {b : Nat} {ad : Nat → Nat} {x1 : Int32} {x2 : Int32} {x3 : Int32} {S : CS} {T : MS × (Nat → Int64)} {rr : Int32}  (h : jStringLatin1_indexOfChar4 x1 x2 x3 = some rr) : Met l y_jStringLatin1_indexOfChar4 (Cond.code y_jStringLatin1_indexOfChar4 prog_22_method_23_code 6 (Option.some Jvm.ClassFile.FieldType.int) :: TW) { frames := 0, cells := 0, slots := 0, locals := 0 } (va_Pc [.ref (ad 18), .int x1, .int x2, .int x3] (Rp D cA b ad (S, T))) (Qr D cA b ad (S, T) (some (.int rr))) 0 0 (Ab b) := by
  refine Ct_of (by decide) (Nat.le_of_ble_eq_true rfl) ?_
  intro p e R s m args below meth c ls Q H locs hR hQ hx hb hts hown hml hr hlk hC hX hS hl
  have hRf : R.frames = 0 := by rw [hR]
  have hRl : R.locals = 0 := by rw [hR]
  have hown : s.vm.findClass "java/lang/StringLatin1" = some m.cls := hown
  have hl : lv_has ls 6 [(0, .ref (ad 18)), (1, .int x1), (2, .int x2), (3, .int x3)] := hl
  rw [jStringLatin1_indexOfChar4] at h
  refine lv_iload_n hx hb d_jStringLatin1_indexOfChar4_0 rfl (lv_at hl 1 rfl) ?_
  refine lv_i2b (v := ((x1).toInt8.toInt32)) hx hb d_jStringLatin1_indexOfChar4_1 rfl ?_
  obtain ⟨a2, e2, h⟩ := bd_some h
  refine lt_I e2 ?_
  refine lv_istore (lv' := [(4, .int a2), (0, .ref (ad 18)), (1, .int x1), (2, .int x2), (3, .int x3)]) hx hb d_jStringLatin1_indexOfChar4_2 hl (by decide) rfl (fun ls hl => ?_)
  refine lv_iload_n hx hb d_jStringLatin1_indexOfChar4_4 rfl (lv_at hl 3 rfl) ?_
  refine lv_istore (lv' := [(5, .int x2), (4, .int a2), (0, .ref (ad 18)), (1, .int x1), (2, .int x2), (3, .int x3)]) hx hb d_jStringLatin1_indexOfChar4_5 hl (by decide) rfl (fun ls hl => ?_)
  have L7 : ∀ (n7 : Nat) (v5_7 : Int32) (H : Heap) (locs : List Loc) (ls : Array Slot), hp D cA b ad (S, T) H → va_S (Ab b) s.heap H locs → lv_has ls 6 [(0, .ref (ad 18)), (3, .int x3), (4, .int a2), (5, .int v5_7)] → jStringLatin1_indexOfChar4_L7 x3 a2 n7 v5_7 = some rr → W p l e R s m args below meth c H locs 0 0 Q (F0 m 7 ls []) := by
    intro n7; induction n7 with
    | zero => intro v5_7 H locs ls  hX hS hl h; rw [jStringLatin1_indexOfChar4_L7] at h; cases h
    | succ n7 ih7 =>
      intro v5_7 H locs ls  hX hS hl h
      rw [jStringLatin1_indexOfChar4_L7] at h
      refine lv_iload hx hb d_jStringLatin1_indexOfChar4_7 (lv_at hl 3 rfl) ?_
      refine lv_iload_n hx hb d_jStringLatin1_indexOfChar4_9 rfl (lv_at hl 1 rfl) ?_
      refine lv_icmp_ge hx hb d_jStringLatin1_indexOfChar4_10 (tgt := 31) (by decide) (fun hc => ?_) (fun hc => ?_)
      · rw [if_pos hc] at h
        refine lv_iconst (v := (-1)) hx hb d_jStringLatin1_indexOfChar4_31 (by decide) ?_
        obtain rfl := Option.some.inj h
        exact rt_i hQ hx hb hr hX hS hlk d_jStringLatin1_indexOfChar4_32
      · rw [if_neg hc] at h
        refine lv_aload_n hx hb d_jStringLatin1_indexOfChar4_13 rfl (lv_at hl 0 rfl) ?_
        refine lv_iload hx hb d_jStringLatin1_indexOfChar4_14 (lv_at hl 3 rfl) ?_
        by_cases hg16 : inbd v5_7 8 = true
        rotate_left; · rw [if_neg hg16] at h; cases h
        rw [if_pos hg16] at h
        refine st_bald hx hb hC hS hg16 d_jStringLatin1_indexOfChar4_16 ?_
        refine lv_iload hx hb d_jStringLatin1_indexOfChar4_17 (lv_at hl 2 rfl) ?_
        refine lv_icmp_ne hx hb d_jStringLatin1_indexOfChar4_19 (tgt := 25) (by decide) (fun hc => ?_) (fun hc => ?_)
        · rw [if_neg hc] at h
          obtain ⟨a25, e25, h⟩ := bd_some h
          refine lv_iinc (v := a25) (lv' := [(5, .int a25), (0, .ref (ad 18)), (3, .int x3), (4, .int a2)]) hx hb d_jStringLatin1_indexOfChar4_25 hl (k := 3) rfl e25.symm (by decide) rfl (fun ls hl => ?_)
          refine lv_goto hx hb d_jStringLatin1_indexOfChar4_28 (tgt := 7) (by decide) ?_
          exact ih7 a25 H locs ls  hX hS (lv_sub hl [1, 2, 3, 0] rfl) h
        · rw [if_pos hc] at h
          refine lv_iload hx hb d_jStringLatin1_indexOfChar4_22 (lv_at hl 3 rfl) ?_
          obtain rfl := Option.some.inj h
          exact rt_i hQ hx hb hr hX hS hlk d_jStringLatin1_indexOfChar4_24
  exact L7 600 x2 H locs ls  hX hS (lv_sub hl [2, 5, 1, 0] rfl) h
abbrev y_jStringLatin1_indexOf4 : MethodName := ({ cls := "java/lang/StringLatin1", name := "indexOf", desc := "([BIII)I" } : Jvm.MethodName)
theorem d_jStringLatin1_indexOf4_0 : decode prog_22_method_22_code 0 = .ok (.iload_n 1, 1) := by decide +kernel
theorem d_jStringLatin1_indexOf4_1 : decode prog_22_method_22_code 1 = .ok (.invokestatic 88, 3) := by decide +kernel
theorem d_jStringLatin1_indexOf4_4 : decode prog_22_method_22_code 4 = .ok (.ifCond .ne 5, 3) := by decide +kernel
theorem d_jStringLatin1_indexOf4_7 : decode prog_22_method_22_code 7 = .ok (.iconst (-1), 1) := by decide +kernel
theorem d_jStringLatin1_indexOf4_8 : decode prog_22_method_22_code 8 = .ok (.ireturn, 1) := by decide +kernel
theorem d_jStringLatin1_indexOf4_9 : decode prog_22_method_22_code 9 = .ok (.iload_n 2, 1) := by decide +kernel
theorem d_jStringLatin1_indexOf4_10 : decode prog_22_method_22_code 10 = .ok (.iconst 0, 1) := by decide +kernel
theorem d_jStringLatin1_indexOf4_11 : decode prog_22_method_22_code 11 = .ok (.invokestatic 92, 3) := by decide +kernel
theorem d_jStringLatin1_indexOf4_14 : decode prog_22_method_22_code 14 = .ok (.istore_n 2, 1) := by decide +kernel
theorem d_jStringLatin1_indexOf4_15 : decode prog_22_method_22_code 15 = .ok (.iload_n 3, 1) := by decide +kernel
theorem d_jStringLatin1_indexOf4_16 : decode prog_22_method_22_code 16 = .ok (.aload_n 0, 1) := by decide +kernel
theorem d_jStringLatin1_indexOf4_17 : decode prog_22_method_22_code 17 = .ok (.arraylength, 1) := by decide +kernel
theorem d_jStringLatin1_indexOf4_18 : decode prog_22_method_22_code 18 = .ok (.invokestatic 38, 3) := by decide +kernel
theorem d_jStringLatin1_indexOf4_21 : decode prog_22_method_22_code 21 = .ok (.istore_n 3, 1) := by decide +kernel
theorem d_jStringLatin1_indexOf4_22 : decode prog_22_method_22_code 22 = .ok (.iload_n 2, 1) := by decide +kernel
theorem d_jStringLatin1_indexOf4_23 : decode prog_22_method_22_code 23 = .ok (.iload_n 3, 1) := by decide +kernel
theorem d_jStringLatin1_indexOf4_24 : decode prog_22_method_22_code 24 = .ok (.if_icmp .lt 5, 3) := by decide +kernel
theorem d_jStringLatin1_indexOf4_27 : decode prog_22_method_22_code 27 = .ok (.iconst (-1), 1) := by decide +kernel
theorem d_jStringLatin1_indexOf4_28 : decode prog_22_method_22_code 28 = .ok (.ireturn, 1) := by decide +kernel
theorem d_jStringLatin1_indexOf4_29 : decode prog_22_method_22_code 29 = .ok (.aload_n 0, 1) := by decide +kernel
theorem d_jStringLatin1_indexOf4_30 : decode prog_22_method_22_code 30 = .ok (.iload_n 1, 1) := by decide +kernel
theorem d_jStringLatin1_indexOf4_31 : decode prog_22_method_22_code 31 = .ok (.iload_n 2, 1) := by decide +kernel
theorem d_jStringLatin1_indexOf4_32 : decode prog_22_method_22_code 32 = .ok (.iload_n 3, 1) := by decide +kernel
theorem d_jStringLatin1_indexOf4_33 : decode prog_22_method_22_code 33 = .ok (.invokestatic 95, 3) := by decide +kernel
theorem d_jStringLatin1_indexOf4_36 : decode prog_22_method_22_code 36 = .ok (.ireturn, 1) := by decide +kernel
def jStringLatin1_indexOf4 (x1 : Int32) (x2 : Int32) (x3 : Int32) : Option Int32 := ((jStringLatin1_canEncode1 x1).bind fun q1 => (if q1 = true then ((jMath_max2 x2 0).bind fun q11 => ((jMath_min2 x3 8).bind fun q18 => (if q11 < q18 then ((jStringLatin1_indexOfChar4 x1 q11 q18).bind fun q33 => some q33) else some (-1)))) else some (-1)))
set_option maxHeartbeats 4000000 in
set_option maxRecDepth 100000 in
theorem M_jStringLatin1_indexOf4 {l : Launch} {D : va_G} {cA : Nat → ClassId} {b : Nat} {ad : Nat → Nat} {x1 : Int32} {x2 : Int32} {x3 : Int32} {S : CS} {T : MS × (Nat → Int64)} {rr : Int32}  (h : jStringLatin1_indexOf4 x1 x2 x3 = some rr) : Met l y_jStringLatin1_indexOf4 (Cond.code y_jStringLatin1_indexOf4 prog_22_method_22_code 4 (Option.some Jvm.ClassFile.FieldType.int) :: TW) { frames := 1, cells := 0, slots := 0, locals := 25 } (va_Pc [.ref (ad 18), .int x1, .int x2, .int x3] (Rp D cA b ad (S, T))) (Qr D cA b ad (S, T) (some (.int rr))) 0 0 (Ab b) := by
  refine Ct_of (by decide) (Nat.le_of_ble_eq_true rfl) ?_
  intro p e R s m args below meth c ls Q H locs hR hQ hx hb hts hown hml hr hlk hC hX hS hl
  have hRf : R.frames = 1 := by rw [hR]
  have hRl : R.locals = 25 := by rw [hR]
  have hown : s.vm.findClass "java/lang/StringLatin1" = some m.cls := hown
  have hl : lv_has ls 4 [(0, .ref (ad 18)), (1, .int x1), (2, .int x2), (3, .int x3)] := hl
  rw [jStringLatin1_indexOf4] at h
  refine lv_iload_n hx hb d_jStringLatin1_indexOf4_0 rfl (lv_at hl 1 rfl) ?_
  obtain ⟨q1, hc1, h⟩ := Option.bind_eq_some_iff.mp h
  refine ck_S (As := [.int x1]) (rest := []) (st1 := [.int (bI q1)]) (M_jStringLatin1_canEncode1  hc1) t_478 t_479 t_480 t_15 hx hb hts hown hC hX hS  hml hl.1 ⟨by rw [hRf]; decide, by rw [hRl]; decide⟩ ⟨rfl, rfl⟩ (n := 1) (by decide +kernel) rfl rfl rfl (lv_room (Nat.le_of_ble_eq_true rfl)) d_jStringLatin1_indexOf4_1 (fun H locs hX hS => ?_)
  refine lz_ifne hx hb d_jStringLatin1_indexOf4_4 (tgt := 9) (by decide) (fun hc => ?_) (fun hc => ?_)
  · rw [if_pos hc] at h
    refine lv_iload_n hx hb d_jStringLatin1_indexOf4_9 rfl (lv_at hl 2 rfl) ?_
    refine lv_iconst (v := 0) hx hb d_jStringLatin1_indexOf4_10 (by decide) ?_
    obtain ⟨q11, hc11, h⟩ := Option.bind_eq_some_iff.mp h
    refine ck_S (As := [.int x2, .int 0]) (rest := []) (st1 := [.int q11]) (M_jMath_max2  hc11) t_481 t_482 t_483 t_16 hx hb hts hown hC hX hS  hml hl.1 ⟨by rw [hRf]; decide, by rw [hRl]; decide⟩ ⟨rfl, rfl⟩ (n := 2) (by decide +kernel) rfl rfl rfl (lv_room (Nat.le_of_ble_eq_true rfl)) d_jStringLatin1_indexOf4_11 (fun H locs hX hS => ?_)
    refine lv_istore_n (lv' := [(2, .int q11), (0, .ref (ad 18)), (1, .int x1), (3, .int x3)]) hx hb d_jStringLatin1_indexOf4_14 rfl hl (by decide) rfl (fun ls hl => ?_)
    refine lv_iload_n hx hb d_jStringLatin1_indexOf4_15 rfl (lv_at hl 3 rfl) ?_
    refine lv_aload_n hx hb d_jStringLatin1_indexOf4_16 rfl (lv_at hl 1 rfl) ?_
    refine st_blen hx hb hC hS d_jStringLatin1_indexOf4_17 ?_
    obtain ⟨q18, hc18, h⟩ := Option.bind_eq_some_iff.mp h
    refine ck_S (As := [.int x3, .int 8]) (rest := []) (st1 := [.int q18]) (M_jMath_min2  hc18) t_484 t_485 t_486 t_16 hx hb hts hown hC hX hS  hml hl.1 ⟨by rw [hRf]; decide, by rw [hRl]; decide⟩ ⟨rfl, rfl⟩ (n := 2) (by decide +kernel) rfl rfl rfl (lv_room (Nat.le_of_ble_eq_true rfl)) d_jStringLatin1_indexOf4_18 (fun H locs hX hS => ?_)
    refine lv_istore_n (lv' := [(3, .int q18), (2, .int q11), (0, .ref (ad 18)), (1, .int x1)]) hx hb d_jStringLatin1_indexOf4_21 rfl hl (by decide) rfl (fun ls hl => ?_)
    refine lv_iload_n hx hb d_jStringLatin1_indexOf4_22 rfl (lv_at hl 1 rfl) ?_
    refine lv_iload_n hx hb d_jStringLatin1_indexOf4_23 rfl (lv_at hl 0 rfl) ?_
    refine lv_icmp_lt hx hb d_jStringLatin1_indexOf4_24 (tgt := 29) (by decide) (fun hc => ?_) (fun hc => ?_)
    · rw [if_pos hc] at h
      refine lv_aload_n hx hb d_jStringLatin1_indexOf4_29 rfl (lv_at hl 2 rfl) ?_
      refine lv_iload_n hx hb d_jStringLatin1_indexOf4_30 rfl (lv_at hl 3 rfl) ?_
      refine lv_iload_n hx hb d_jStringLatin1_indexOf4_31 rfl (lv_at hl 1 rfl) ?_
      refine lv_iload_n hx hb d_jStringLatin1_indexOf4_32 rfl (lv_at hl 0 rfl) ?_
      obtain ⟨q33, hc33, h⟩ := Option.bind_eq_some_iff.mp h
      refine ck_S (As := [.ref (ad 18), .int x1, .int q11, .int q18]) (rest := []) (st1 := [.int q33]) (M_jStringLatin1_indexOfChar4  hc33) t_487 t_488 t_489 t_15 hx hb hts hown hC hX hS  hml hl.1 ⟨by rw [hRf]; decide, by rw [hRl]; decide⟩ ⟨rfl, rfl⟩ (n := 4) (by decide +kernel) rfl rfl rfl (lv_room (Nat.le_of_ble_eq_true rfl)) d_jStringLatin1_indexOf4_33 (fun H locs hX hS => ?_)
      obtain rfl := Option.some.inj h
      exact rt_i hQ hx hb hr hX hS hlk d_jStringLatin1_indexOf4_36
    · rw [if_neg hc] at h
      refine lv_iconst (v := (-1)) hx hb d_jStringLatin1_indexOf4_27 (by decide) ?_
      obtain rfl := Option.some.inj h
      exact rt_i hQ hx hb hr hX hS hlk d_jStringLatin1_indexOf4_28
  · rw [if_neg hc] at h
    refine lv_iconst (v := (-1)) hx hb d_jStringLatin1_indexOf4_7 (by decide) ?_
    obtain rfl := Option.some.inj h
    exact rt_i hQ hx hb hr hX hS hlk d_jStringLatin1_indexOf4_8
abbrev y_jString_indexOf2 : MethodName := ({ cls := "java/lang/String", name := "indexOf", desc := "(II)I" } : Jvm.MethodName)
theorem d_jString_indexOf2_0 : decode prog_21_method_80_code 0 = .ok (.aload_n 0, 1) := by decide +kernel
theorem d_jString_indexOf2_1 : decode prog_21_method_80_code 1 = .ok (.invokevirtual 492, 3) := by decide +kernel
theorem d_jString_indexOf2_4 : decode prog_21_method_80_code 4 = .ok (.ifCond .eq 19, 3) := by decide +kernel
theorem d_jString_indexOf2_7 : decode prog_21_method_80_code 7 = .ok (.aload_n 0, 1) := by decide +kernel
theorem d_jString_indexOf2_8 : decode prog_21_method_80_code 8 = .ok (.getfield 9, 3) := by decide +kernel
theorem d_jString_indexOf2_11 : decode prog_21_method_80_code 11 = .ok (.iload_n 1, 1) := by decide +kernel
theorem d_jString_indexOf2_12 : decode prog_21_method_80_code 12 = .ok (.iload_n 2, 1) := by decide +kernel
theorem d_jString_indexOf2_13 : decode prog_21_method_80_code 13 = .ok (.aload_n 0, 1) := by decide +kernel
theorem d_jString_indexOf2_14 : decode prog_21_method_80_code 14 = .ok (.invokevirtual 505, 3) := by decide +kernel
theorem d_jString_indexOf2_17 : decode prog_21_method_80_code 17 = .ok (.invokestatic 637, 3) := by decide +kernel
theorem d_jString_indexOf2_20 : decode prog_21_method_80_code 20 = .ok (.goto 16, 3) := by decide +kernel
theorem d_jString_indexOf2_23 : decode prog_21_method_80_code 23 = .ok (.aload_n 0, 1) := by decide +kernel
theorem d_jString_indexOf2_24 : decode prog_21_method_80_code 24 = .ok (.getfield 9, 3) := by decide +kernel
theorem d_jString_indexOf2_27 : decode prog_21_method_80_code 27 = .ok (.iload_n 1, 1) := by decide +kernel
theorem d_jString_indexOf2_28 : decode prog_21_method_80_code 28 = .ok (.iload_n 2, 1) := by decide +kernel
theorem d_jString_indexOf2_29 : decode prog_21_method_80_code 29 = .ok (.aload_n 0, 1) := by decide +kernel
theorem d_jString_indexOf2_30 : decode prog_21_method_80_code 30 = .ok (.invokevirtual 505, 3) := by decide +kernel
theorem d_jString_indexOf2_33 : decode prog_21_method_80_code 33 = .ok (.invokestatic 640, 3) := by decide +kernel
theorem d_jString_indexOf2_36 : decode prog_21_method_80_code 36 = .ok (.ireturn, 1) := by decide +kernel
def jString_indexOf2 (x1 : Int32) (x2 : Int32) : Option Int32 := ((jString_isLatin10 ).bind fun q1 => (if q1 = true then ((jString_length0 ).bind fun q14 => ((jStringLatin1_indexOf4 x1 x2 q14).bind fun q17 => some q17)) else ((jString_length0 ).bind fun q30 => none)))
set_option maxHeartbeats 4000000 in
set_option maxRecDepth 100000 in
theorem M_jString_indexOf2 {l : Launch} {D : va_G} {cA : Nat → ClassId} {b : Nat} {ad : Nat → Nat} {x1 : Int32} {x2 : Int32} {S : CS} {T : MS × (Nat → Int64)} {rr : Int32}  (h : jString_indexOf2 x1 x2 = some rr) : Met l y_jString_indexOf2 (Cond.code y_jString_indexOf2 prog_21_method_80_code 3 (Option.some Jvm.ClassFile.FieldType.int) :: TW) { frames := 2, cells := 0, slots := 0, locals := 48 } (va_Pc [.ref (ad 17), .int x1, .int x2] (Rp D cA b ad (S, T))) (Qr D cA b ad (S, T) (some (.int rr))) 0 0 (Ab b) := by
  refine Ct_of (by decide) (Nat.le_of_ble_eq_true rfl) ?_
  intro p e R s m args below meth c ls Q H locs hR hQ hx hb hts hown hml hr hlk hC hX hS hl
  have hRf : R.frames = 2 := by rw [hR]
  have hRl : R.locals = 48 := by rw [hR]
  have hown : s.vm.findClass "java/lang/String" = some m.cls := hown
  have hl : lv_has ls 3 [(0, .ref (ad 17)), (1, .int x1), (2, .int x2)] := hl
  rw [jString_indexOf2] at h
  refine lv_aload_n hx hb d_jString_indexOf2_0 rfl (lv_at hl 0 rfl) ?_
  obtain ⟨q1, hc1, h⟩ := Option.bind_eq_some_iff.mp h
  refine ck_V (As := []) (rest := []) (st1 := [.int (bI q1)]) (M_jString_isLatin10  hc1) t_461 t_462 t_463 t_464 t_14 hx hb hts hown hC hX hS (hrc_str hC hS) hml hl.1 ⟨by rw [hRf]; decide, by rw [hRl]; decide⟩ ⟨rfl, rfl⟩ (n := 0) (by decide +kernel) rfl rfl rfl (lv_room (Nat.le_of_ble_eq_true rfl)) d_jString_indexOf2_1 (fun H locs hX hS => ?_)
  refine lz_ifeq hx hb d_jString_indexOf2_4 (tgt := 23) (by decide) (fun hc => ?_) (fun hc => ?_)
  · rw [if_neg hc] at h
    refine lv_aload_n hx hb d_jString_indexOf2_23 rfl (lv_at hl 0 rfl) ?_
    refine st_sval hx hb hC hS hown (hts _ t_1393) d_jString_indexOf2_24 ?_
    refine lv_iload_n hx hb d_jString_indexOf2_27 rfl (lv_at hl 1 rfl) ?_
    refine lv_iload_n hx hb d_jString_indexOf2_28 rfl (lv_at hl 2 rfl) ?_
    refine lv_aload_n hx hb d_jString_indexOf2_29 rfl (lv_at hl 0 rfl) ?_
    obtain ⟨q30, hc30, h⟩ := Option.bind_eq_some_iff.mp h
    refine ck_V (As := []) (rest := [.int x2, .int x1, .ref (ad 18)]) (st1 := [.int q30, .int x2, .int x1, .ref (ad 18)]) (M_jString_length0  hc30) t_467 t_468 t_469 t_470 t_14 hx hb hts hown hC hX hS (hrc_str hC hS) hml hl.1 ⟨by rw [hRf]; decide, by rw [hRl]; decide⟩ ⟨rfl, rfl⟩ (n := 0) (by decide +kernel) rfl rfl rfl (lv_room (Nat.le_of_ble_eq_true rfl)) d_jString_indexOf2_30 (fun H locs hX hS => ?_)
    cases h
  · rw [if_pos hc] at h
    refine lv_aload_n hx hb d_jString_indexOf2_7 rfl (lv_at hl 0 rfl) ?_
    refine st_sval hx hb hC hS hown (hts _ t_1393) d_jString_indexOf2_8 ?_
    refine lv_iload_n hx hb d_jString_indexOf2_11 rfl (lv_at hl 1 rfl) ?_
    refine lv_iload_n hx hb d_jString_indexOf2_12 rfl (lv_at hl 2 rfl) ?_
    refine lv_aload_n hx hb d_jString_indexOf2_13 rfl (lv_at hl 0 rfl) ?_
    obtain ⟨q14, hc14, h⟩ := Option.bind_eq_some_iff.mp h
    refine ck_V (As := []) (rest := [.int x2, .int x1, .ref (ad 18)]) (st1 := [.int q14, .int x2, .int x1, .ref (ad 18)]) (M_jString_length0  hc14) t_467 t_468 t_469 t_470 t_14 hx hb hts hown hC hX hS (hrc_str hC hS) hml hl.1 ⟨by rw [hRf]; decide, by rw [hRl]; decide⟩ ⟨rfl, rfl⟩ (n := 0) (by decide +kernel) rfl rfl rfl (lv_room (Nat.le_of_ble_eq_true rfl)) d_jString_indexOf2_14 (fun H locs hX hS => ?_)
    obtain ⟨q17, hc17, h⟩ := Option.bind_eq_some_iff.mp h
    refine ck_S (As := [.ref (ad 18), .int x1, .int x2, .int q14]) (rest := []) (st1 := [.int q17]) (M_jStringLatin1_indexOf4  hc17) t_475 t_476 t_477 t_15 hx hb hts hown hC hX hS  hml hl.1 ⟨by rw [hRf]; decide, by rw [hRl]; decide⟩ ⟨rfl, rfl⟩ (n := 4) (by decide +kernel) rfl rfl rfl (lv_room (Nat.le_of_ble_eq_true rfl)) d_jString_indexOf2_17 (fun H locs hX hS => ?_)
    refine lv_goto hx hb d_jString_indexOf2_20 (tgt := 36) (by decide) ?_
    obtain rfl := Option.some.inj h
    exact rt_i hQ hx hb hr hX hS hlk d_jString_indexOf2_36
abbrev y_jString_indexOf1 : MethodName := ({ cls := "java/lang/String", name := "indexOf", desc := "(I)I" } : Jvm.MethodName)
theorem d_jString_indexOf1_0 : decode prog_21_method_79_code 0 = .ok (.aload_n 0, 1) := by decide +kernel
theorem d_jString_indexOf1_1 : decode prog_21_method_79_code 1 = .ok (.iload_n 1, 1) := by decide +kernel
theorem d_jString_indexOf1_2 : decode prog_21_method_79_code 2 = .ok (.iconst 0, 1) := by decide +kernel
theorem d_jString_indexOf1_3 : decode prog_21_method_79_code 3 = .ok (.invokevirtual 633, 3) := by decide +kernel
theorem d_jString_indexOf1_6 : decode prog_21_method_79_code 6 = .ok (.ireturn, 1) := by decide +kernel
def jString_indexOf1 (x1 : Int32) : Option Int32 := ((jString_indexOf2 x1 0).bind fun q3 => some q3)
set_option maxHeartbeats 4000000 in
set_option maxRecDepth 100000 in
theorem M_jString_indexOf1 {l : Launch} {D : va_G} {cA : Nat → ClassId} {b : Nat} {ad : Nat → Nat} {x1 : Int32} {S : CS} {T : MS × (Nat → Int64)} {rr : Int32}  (h : jString_indexOf1 x1 = some rr) : Met l y_jString_indexOf1 (Cond.code y_jString_indexOf1 prog_21_method_79_code 2 (Option.some Jvm.ClassFile.FieldType.int) :: TW) { frames := 3, cells := 0, slots := 0, locals := 70 } (va_Pc [.ref (ad 17), .int x1] (Rp D cA b ad (S, T))) (Qr D cA b ad (S, T) (some (.int rr))) 0 0 (Ab b) := by
  refine Ct_of (by decide) (Nat.le_of_ble_eq_true rfl) ?_
  intro p e R s m args below meth c ls Q H locs hR hQ hx hb hts hown hml hr hlk hC hX hS hl
  have hRf : R.frames = 3 := by rw [hR]
  have hRl : R.locals = 70 := by rw [hR]
  have hown : s.vm.findClass "java/lang/String" = some m.cls := hown
  have hl : lv_has ls 2 [(0, .ref (ad 17)), (1, .int x1)] := hl
  rw [jString_indexOf1] at h
  refine lv_aload_n hx hb d_jString_indexOf1_0 rfl (lv_at hl 0 rfl) ?_
  refine lv_iload_n hx hb d_jString_indexOf1_1 rfl (lv_at hl 1 rfl) ?_
  refine lv_iconst (v := 0) hx hb d_jString_indexOf1_2 (by decide) ?_
  obtain ⟨q3, hc3, h⟩ := Option.bind_eq_some_iff.mp h
  refine ck_V (As := [.int x1, .int 0]) (rest := []) (st1 := [.int q3]) (M_jString_indexOf2  hc3) t_457 t_458 t_459 t_460 t_14 hx hb hts hown hC hX hS (hrc_str hC hS) hml hl.1 ⟨by rw [hRf]; decide, by rw [hRl]; decide⟩ ⟨rfl, rfl⟩ (n := 2) (by decide +kernel) rfl rfl rfl (lv_room (Nat.le_of_ble_eq_true rfl)) d_jString_indexOf1_3 (fun H locs hX hS => ?_)
  obtain rfl := Option.some.inj h
  exact rt_i hQ hx hb hr hX hS hlk d_jString_indexOf1_6
abbrev y_jMath_floorMod2 : MethodName := ({ cls := "java/lang/Math", name := "floorMod", desc := "(II)I" } : Jvm.MethodName)
theorem d_jMath_floorMod2_0 : decode prog_19_method_50_code 0 = .ok (.iload_n 0, 1) := by decide +kernel
theorem d_jMath_floorMod2_1 : decode prog_19_method_50_code 1 = .ok (.iload_n 1, 1) := by decide +kernel
theorem d_jMath_floorMod2_2 : decode prog_19_method_50_code 2 = .ok (.irem, 1) := by decide +kernel
theorem d_jMath_floorMod2_3 : decode prog_19_method_50_code 3 = .ok (.istore_n 2, 1) := by decide +kernel
theorem d_jMath_floorMod2_4 : decode prog_19_method_50_code 4 = .ok (.iload_n 0, 1) := by decide +kernel
theorem d_jMath_floorMod2_5 : decode prog_19_method_50_code 5 = .ok (.iload_n 1, 1) := by decide +kernel
theorem d_jMath_floorMod2_6 : decode prog_19_method_50_code 6 = .ok (.ixor, 1) := by decide +kernel
theorem d_jMath_floorMod2_7 : decode prog_19_method_50_code 7 = .ok (.ifCond .ge 11, 3) := by decide +kernel
theorem d_jMath_floorMod2_10 : decode prog_19_method_50_code 10 = .ok (.iload_n 2, 1) := by decide +kernel
theorem d_jMath_floorMod2_11 : decode prog_19_method_50_code 11 = .ok (.ifCond .eq 7, 3) := by decide +kernel
theorem d_jMath_floorMod2_14 : decode prog_19_method_50_code 14 = .ok (.iload_n 2, 1) := by decide +kernel
theorem d_jMath_floorMod2_15 : decode prog_19_method_50_code 15 = .ok (.iload_n 1, 1) := by decide +kernel
theorem d_jMath_floorMod2_16 : decode prog_19_method_50_code 16 = .ok (.iadd, 1) := by decide +kernel
theorem d_jMath_floorMod2_17 : decode prog_19_method_50_code 17 = .ok (.ireturn, 1) := by decide +kernel
theorem d_jMath_floorMod2_18 : decode prog_19_method_50_code 18 = .ok (.iload_n 2, 1) := by decide +kernel
theorem d_jMath_floorMod2_19 : decode prog_19_method_50_code 19 = .ok (.ireturn, 1) := by decide +kernel
def jMath_floorMod2 (x0 : Int32) : Option Int32 := (bd ((x0 - x0 / 8 * 8)) fun a3 => (if 0 ≤ (x0 ^^^ 8) then some a3 else (if a3 = 0 then some a3 else some (a3 + 8))))
set_option maxHeartbeats 4000000 in
set_option maxRecDepth 100000 in
theorem M_jMath_floorMod2 {l : Launch} {D : va_G} {cA : Nat → ClassId} {b : Nat} {ad : Nat → Nat} {x0 : Int32} {S : CS} {T : MS × (Nat → Int64)} {rr : Int32}  (h : jMath_floorMod2 x0 = some rr) : Met l y_jMath_floorMod2 (Cond.code y_jMath_floorMod2 prog_19_method_50_code 3 (Option.some Jvm.ClassFile.FieldType.int) :: TW) { frames := 0, cells := 0, slots := 0, locals := 0 } (va_Pc [.int x0, .int 8] (Rp D cA b ad (S, T))) (Qr D cA b ad (S, T) (some (.int rr))) 0 0 (Ab b) := by
  refine Ct_ofF (by decide +kernel) (Nat.le_of_ble_eq_true rfl) ?_
  intro p e R s m args below meth c ls Q H locs hR hQ hx hb hts hown hml hr hlk hC hX hS hl
  have hRf : R.frames = 0 := by rw [hR]
  have hRl : R.locals = 0 := by rw [hR]
  have hown : s.vm.findClass "java/lang/Math" = some m.cls := hown
  have hl : lv_has ls 3 [(0, .int x0), (1, .int 8)] := hl
  rw [jMath_floorMod2] at h
  refine lv_iload_n hx hb d_jMath_floorMod2_0 rfl (lv_at hl 0 rfl) ?_
  refine lv_iload_n hx hb d_jMath_floorMod2_1 rfl (lv_at hl 1 rfl) ?_
  refine lv_irem hx hb d_jMath_floorMod2_2 (by decide) ?_
  obtain ⟨a3, e3, h⟩ := bd_some h
  refine lt_I e3 ?_
  refine lv_istore_n (lv' := [(2, .int a3), (0, .int x0), (1, .int 8)]) hx hb d_jMath_floorMod2_3 rfl hl (by decide) rfl (fun ls hl => ?_)
  refine lv_iload_n hx hb d_jMath_floorMod2_4 rfl (lv_at hl 1 rfl) ?_
  refine lv_iload_n hx hb d_jMath_floorMod2_5 rfl (lv_at hl 2 rfl) ?_
  refine lv_ixor hx hb d_jMath_floorMod2_6 ?_
  refine lv_if_ge hx hb d_jMath_floorMod2_7 (tgt := 18) (by decide) (fun hc => ?_) (fun hc => ?_)
  · rw [if_pos hc] at h
    refine lv_iload_n hx hb d_jMath_floorMod2_18 rfl (lv_at hl 0 rfl) ?_
    obtain rfl := Option.some.inj h
    exact rt_i hQ hx hb hr hX hS hlk d_jMath_floorMod2_19
  · rw [if_neg hc] at h
    refine lv_iload_n hx hb d_jMath_floorMod2_10 rfl (lv_at hl 0 rfl) ?_
    refine lv_if_eq hx hb d_jMath_floorMod2_11 (tgt := 18) (by decide) (fun hc => ?_) (fun hc => ?_)
    · rw [if_pos hc] at h
      refine lv_iload_n hx hb d_jMath_floorMod2_18 rfl (lv_at hl 0 rfl) ?_
      obtain rfl := Option.some.inj h
      exact rt_i hQ hx hb hr hX hS hlk d_jMath_floorMod2_19
    · rw [if_neg hc] at h
      refine lv_iload_n hx hb d_jMath_floorMod2_14 rfl (lv_at hl 0 rfl) ?_
      refine lv_iload_n hx hb d_jMath_floorMod2_15 rfl (lv_at hl 2 rfl) ?_
      refine lv_iadd hx hb d_jMath_floorMod2_16 ?_
      obtain rfl := Option.some.inj h
      exact rt_i hQ hx hb hr hX hS hlk d_jMath_floorMod2_17
