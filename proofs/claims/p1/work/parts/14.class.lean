abbrev y_cG_isProcess : MethodName := ({ cls := "TypeGuard", name := "isProcess", desc := "(I)Z" } : Jvm.MethodName)
theorem d_cG_isProcess_0 : decode prog_1_method_19_code 0 = .ok (.iload_n 0, 1) := by decide +kernel
theorem d_cG_isProcess_1 : decode prog_1_method_19_code 1 = .ok (.ifCond .lt 13, 3) := by decide +kernel
theorem d_cG_isProcess_4 : decode prog_1_method_19_code 4 = .ok (.iload_n 0, 1) := by decide +kernel
theorem d_cG_isProcess_5 : decode prog_1_method_19_code 5 = .ok (.bipush 6, 2) := by decide +kernel
theorem d_cG_isProcess_7 : decode prog_1_method_19_code 7 = .ok (.if_icmp .ge 7, 3) := by decide +kernel
theorem d_cG_isProcess_10 : decode prog_1_method_19_code 10 = .ok (.iconst 1, 1) := by decide +kernel
theorem d_cG_isProcess_11 : decode prog_1_method_19_code 11 = .ok (.goto 4, 3) := by decide +kernel
theorem d_cG_isProcess_14 : decode prog_1_method_19_code 14 = .ok (.iconst 0, 1) := by decide +kernel
theorem d_cG_isProcess_15 : decode prog_1_method_19_code 15 = .ok (.ireturn, 1) := by decide +kernel
def cG_isProcess (x0 : Int32) : Option Bool := (if x0 < 0 then some false else (if 6 ≤ x0 then some false else some true))
set_option maxHeartbeats 4000000 in
set_option maxRecDepth 100000 in
theorem M_cG_isProcess {l : Launch} {D : va_G} {cA : Nat → ClassId} {b : Nat} {ad : Nat → Nat} {x0 : Int32} {S : CS} {T : MS × (Nat → Int64)} {rr : Bool}  (h : cG_isProcess x0 = some rr) : Met l y_cG_isProcess (Cond.code y_cG_isProcess prog_1_method_19_code 1 (Option.some Jvm.ClassFile.FieldType.boolean) :: TW) { frames := 0, cells := 0, slots := 0, locals := 0 } (va_Pc [.int x0] (Rp D cA b ad (S, T))) (Qr D cA b ad (S, T) (some (.int (bI rr)))) 0 0 (Ab b) := by
  refine Ct_of (by decide) (Nat.le_of_ble_eq_true rfl) ?_
  intro p e R s m args below meth c ls Q H locs hR hQ hx hb hts hown hml hr hlk hC hX hS hl
  have hRf : R.frames = 0 := by rw [hR]
  have hRl : R.locals = 0 := by rw [hR]
  have hown : s.vm.findClass "TypeGuard" = some m.cls := hown
  have hl : lv_has ls 1 [(0, .int x0)] := hl
  rw [cG_isProcess] at h
  refine lv_iload_n hx hb d_cG_isProcess_0 rfl (lv_at hl 0 rfl) ?_
  refine lv_if_lt hx hb d_cG_isProcess_1 (tgt := 14) (by decide) (fun hc => ?_) (fun hc => ?_)
  · rw [if_pos hc] at h
    refine lv_iconst (v := 0) hx hb d_cG_isProcess_14 (by decide) ?_
    obtain rfl := Option.some.inj h
    exact rt_zf hQ hx hb hr hX hS hlk d_cG_isProcess_15
  · rw [if_neg hc] at h
    refine lv_iload_n hx hb d_cG_isProcess_4 rfl (lv_at hl 0 rfl) ?_
    refine lv_bipush (v := 6) hx hb d_cG_isProcess_5 (by decide) ?_
    refine lv_icmp_ge hx hb d_cG_isProcess_7 (tgt := 14) (by decide) (fun hc => ?_) (fun hc => ?_)
    · rw [if_pos hc] at h
      refine lv_iconst (v := 0) hx hb d_cG_isProcess_14 (by decide) ?_
      obtain rfl := Option.some.inj h
      exact rt_zf hQ hx hb hr hX hS hlk d_cG_isProcess_15
    · rw [if_neg hc] at h
      refine lv_iconst (v := 1) hx hb d_cG_isProcess_10 (by decide) ?_
      refine lv_goto hx hb d_cG_isProcess_11 (tgt := 15) (by decide) ?_
      obtain rfl := Option.some.inj h
      exact rt_zt hQ hx hb hr hX hS hlk d_cG_isProcess_15
abbrev y_cG_isObject : MethodName := ({ cls := "TypeGuard", name := "isObject", desc := "(I)Z" } : Jvm.MethodName)
theorem d_cG_isObject_0 : decode prog_1_method_20_code 0 = .ok (.iload_n 0, 1) := by decide +kernel
theorem d_cG_isObject_1 : decode prog_1_method_20_code 1 = .ok (.ifCond .lt 13, 3) := by decide +kernel
theorem d_cG_isObject_4 : decode prog_1_method_20_code 4 = .ok (.iload_n 0, 1) := by decide +kernel
theorem d_cG_isObject_5 : decode prog_1_method_20_code 5 = .ok (.bipush 10, 2) := by decide +kernel
theorem d_cG_isObject_7 : decode prog_1_method_20_code 7 = .ok (.if_icmp .ge 7, 3) := by decide +kernel
theorem d_cG_isObject_10 : decode prog_1_method_20_code 10 = .ok (.iconst 1, 1) := by decide +kernel
theorem d_cG_isObject_11 : decode prog_1_method_20_code 11 = .ok (.goto 4, 3) := by decide +kernel
theorem d_cG_isObject_14 : decode prog_1_method_20_code 14 = .ok (.iconst 0, 1) := by decide +kernel
theorem d_cG_isObject_15 : decode prog_1_method_20_code 15 = .ok (.ireturn, 1) := by decide +kernel
def cG_isObject (x0 : Int32) : Option Bool := (if x0 < 0 then some false else (if 10 ≤ x0 then some false else some true))
set_option maxHeartbeats 4000000 in
set_option maxRecDepth 100000 in
theorem M_cG_isObject {l : Launch} {D : va_G} {cA : Nat → ClassId} {b : Nat} {ad : Nat → Nat} {x0 : Int32} {S : CS} {T : MS × (Nat → Int64)} {rr : Bool}  (h : cG_isObject x0 = some rr) : Met l y_cG_isObject (Cond.code y_cG_isObject prog_1_method_20_code 1 (Option.some Jvm.ClassFile.FieldType.boolean) :: TW) { frames := 0, cells := 0, slots := 0, locals := 0 } (va_Pc [.int x0] (Rp D cA b ad (S, T))) (Qr D cA b ad (S, T) (some (.int (bI rr)))) 0 0 (Ab b) := by
  refine Ct_of (by decide) (Nat.le_of_ble_eq_true rfl) ?_
  intro p e R s m args below meth c ls Q H locs hR hQ hx hb hts hown hml hr hlk hC hX hS hl
  have hRf : R.frames = 0 := by rw [hR]
  have hRl : R.locals = 0 := by rw [hR]
  have hown : s.vm.findClass "TypeGuard" = some m.cls := hown
  have hl : lv_has ls 1 [(0, .int x0)] := hl
  rw [cG_isObject] at h
  refine lv_iload_n hx hb d_cG_isObject_0 rfl (lv_at hl 0 rfl) ?_
  refine lv_if_lt hx hb d_cG_isObject_1 (tgt := 14) (by decide) (fun hc => ?_) (fun hc => ?_)
  · rw [if_pos hc] at h
    refine lv_iconst (v := 0) hx hb d_cG_isObject_14 (by decide) ?_
    obtain rfl := Option.some.inj h
    exact rt_zf hQ hx hb hr hX hS hlk d_cG_isObject_15
  · rw [if_neg hc] at h
    refine lv_iload_n hx hb d_cG_isObject_4 rfl (lv_at hl 0 rfl) ?_
    refine lv_bipush (v := 10) hx hb d_cG_isObject_5 (by decide) ?_
    refine lv_icmp_ge hx hb d_cG_isObject_7 (tgt := 14) (by decide) (fun hc => ?_) (fun hc => ?_)
    · rw [if_pos hc] at h
      refine lv_iconst (v := 0) hx hb d_cG_isObject_14 (by decide) ?_
      obtain rfl := Option.some.inj h
      exact rt_zf hQ hx hb hr hX hS hlk d_cG_isObject_15
    · rw [if_neg hc] at h
      refine lv_iconst (v := 1) hx hb d_cG_isObject_10 (by decide) ?_
      refine lv_goto hx hb d_cG_isObject_11 (tgt := 15) (by decide) ?_
      obtain rfl := Option.some.inj h
      exact rt_zt hQ hx hb hr hX hS hlk d_cG_isObject_15
abbrev y_cG_typeOfProcess : MethodName := ({ cls := "TypeGuard", name := "typeOfProcess", desc := "(I)I" } : Jvm.MethodName)
theorem d_cG_typeOfProcess_0 : decode prog_1_method_23_code 0 = .ok (.iload_n 1, 1) := by decide +kernel
theorem d_cG_typeOfProcess_1 : decode prog_1_method_23_code 1 = .ok (.invokestatic 132, 3) := by decide +kernel
theorem d_cG_typeOfProcess_4 : decode prog_1_method_23_code 4 = .ok (.ifCond .eq 22, 3) := by decide +kernel
theorem d_cG_typeOfProcess_7 : decode prog_1_method_23_code 7 = .ok (.aload_n 0, 1) := by decide +kernel
theorem d_cG_typeOfProcess_8 : decode prog_1_method_23_code 8 = .ok (.getfield 23, 3) := by decide +kernel
theorem d_cG_typeOfProcess_11 : decode prog_1_method_23_code 11 = .ok (.getfield 79, 3) := by decide +kernel
theorem d_cG_typeOfProcess_14 : decode prog_1_method_23_code 14 = .ok (.aload_n 0, 1) := by decide +kernel
theorem d_cG_typeOfProcess_15 : decode prog_1_method_23_code 15 = .ok (.getfield 27, 3) := by decide +kernel
theorem d_cG_typeOfProcess_18 : decode prog_1_method_23_code 18 = .ok (.iload_n 1, 1) := by decide +kernel
theorem d_cG_typeOfProcess_19 : decode prog_1_method_23_code 19 = .ok (.laload, 1) := by decide +kernel
theorem d_cG_typeOfProcess_20 : decode prog_1_method_23_code 20 = .ok (.invokevirtual 183, 3) := by decide +kernel
theorem d_cG_typeOfProcess_23 : decode prog_1_method_23_code 23 = .ok (.goto 4, 3) := by decide +kernel
theorem d_cG_typeOfProcess_26 : decode prog_1_method_23_code 26 = .ok (.iconst (-1), 1) := by decide +kernel
theorem d_cG_typeOfProcess_27 : decode prog_1_method_23_code 27 = .ok (.ireturn, 1) := by decide +kernel
def cG_typeOfProcess (x1 : Int32) (S : CS) : Option Int32 := ((cG_isProcess x1).bind fun q1 => (if q1 = true then (bd (gR S 0 3) fun r8 => (if kd r8 = 7 then (if inbd x1 6 = true then ((cNames_numberOf (r8 + 1) (gL S 241 (txN x1)) S).bind fun q20 => some q20) else none) else none)) else some (-1)))
set_option maxHeartbeats 4000000 in
set_option maxRecDepth 100000 in
theorem M_cG_typeOfProcess {l : Launch} {D : va_G} {cA : Nat → ClassId} {b : Nat} {ad : Nat → Nat} {x1 : Int32} {S : CS} {T : MS × (Nat → Int64)} {rr : Int32}  (h : cG_typeOfProcess x1 S = some rr) : Met l y_cG_typeOfProcess (Cond.code y_cG_typeOfProcess prog_1_method_23_code 2 (Option.some Jvm.ClassFile.FieldType.int) :: TW) { frames := 1, cells := 0, slots := 0, locals := 23 } (va_Pc [.ref (b + 0), .int x1] (Rp D cA b ad (S, T))) (Qr D cA b ad (S, T) (some (.int rr))) 0 0 (Ab b) := by
  refine Ct_of (by decide) (Nat.le_of_ble_eq_true rfl) ?_
  intro p e R s m args below meth c ls Q H locs hR hQ hx hb hts hown hml hr hlk hC hX hS hl
  have hRf : R.frames = 1 := by rw [hR]
  have hRl : R.locals = 23 := by rw [hR]
  have hown : s.vm.findClass "TypeGuard" = some m.cls := hown
  have hl : lv_has ls 2 [(0, .ref (b + 0)), (1, .int x1)] := hl
  rw [cG_typeOfProcess] at h
  refine lv_iload_n hx hb d_cG_typeOfProcess_0 rfl (lv_at hl 1 rfl) ?_
  obtain ⟨q1, hc1, h⟩ := Option.bind_eq_some_iff.mp h
  refine ck_S (As := [.int x1]) (rest := []) (st1 := [.int (bI q1)]) (M_cG_isProcess  hc1) t_382 t_383 t_384 t_1 hx hb hts hown hC hX hS  hml hl.1 ⟨by rw [hRf]; decide, by rw [hRl]; decide⟩ ⟨rfl, rfl⟩ (n := 1) (by decide +kernel) rfl rfl rfl (lv_room (Nat.le_of_ble_eq_true rfl)) d_cG_typeOfProcess_1 (fun H locs hX hS => ?_)
  refine lz_ifeq hx hb d_cG_typeOfProcess_4 (tgt := 26) (by decide) (fun hc => ?_) (fun hc => ?_)
  · rw [if_neg hc] at h
    refine lv_iconst (v := (-1)) hx hb d_cG_typeOfProcess_26 (by decide) ?_
    obtain rfl := Option.some.inj h
    exact rt_i hQ hx hb hr hX hS hlk d_cG_typeOfProcess_27
  · rw [if_pos hc] at h
    refine lv_aload_n hx hb d_cG_typeOfProcess_7 rfl (lv_at hl 0 rfl) ?_
    refine c_get_0_3 hx hb hts hown hC hX (by rfl) (hts _ t_331) d_cG_typeOfProcess_8 ?_
    obtain ⟨r8, e8, h⟩ := bd_some h
    refine lt_R e8 ?_
    by_cases hkr8 : kd r8 = 7
    rotate_left; · rw [if_neg hkr8] at h; cases h
    rw [if_pos hkr8] at h
    refine c_get_7_0N (k := r8) hx hb hts hown hC hX hkr8 (va_Nw.use rfl (hC.2.1 _ t_186)) d_cG_typeOfProcess_11 ?_
    refine lv_aload_n hx hb d_cG_typeOfProcess_14 rfl (lv_at hl 0 rfl) ?_
    refine c_get_0_5 hx hb hts hown hC hX (by rfl) (hts _ t_333) d_cG_typeOfProcess_15 ?_
    refine lv_iload_n hx hb d_cG_typeOfProcess_18 rfl (lv_at hl 1 rfl) ?_
    by_cases hg19 : inbd x1 6 = true
    rotate_left; · rw [if_neg hg19] at h; cases h
    rw [if_pos hg19] at h
    refine c_ald_17 (k := 241) hx hb hC hX (by rfl) hg19 d_cG_typeOfProcess_19 ?_
    obtain ⟨q20, hc20, h⟩ := Option.bind_eq_some_iff.mp h
    refine ck_V (As := [.long (gL S 241 (txN x1))]) (rest := []) (st1 := [.int q20]) (M_cNames_numberOf (kx_7_1 hkr8) hc20) t_385 t_386 t_387 t_388 t_5 hx hb hts hown hC hX hS (hrc_c8 hC hX (kx_7_1 hkr8)) hml hl.1 ⟨by rw [hRf]; decide, by rw [hRl]; decide⟩ ⟨rfl, rfl⟩ (n := 1) (by decide +kernel) rfl rfl rfl (lv_room (Nat.le_of_ble_eq_true rfl)) d_cG_typeOfProcess_20 (fun H locs hX hS => ?_)
    refine lv_goto hx hb d_cG_typeOfProcess_23 (tgt := 27) (by decide) ?_
    obtain rfl := Option.some.inj h
    exact rt_i hQ hx hb hr hX hS hlk d_cG_typeOfProcess_27
abbrev y_cG_typeOfObject : MethodName := ({ cls := "TypeGuard", name := "typeOfObject", desc := "(I)I" } : Jvm.MethodName)
theorem d_cG_typeOfObject_0 : decode prog_1_method_24_code 0 = .ok (.iload_n 1, 1) := by decide +kernel
theorem d_cG_typeOfObject_1 : decode prog_1_method_24_code 1 = .ok (.invokestatic 139, 3) := by decide +kernel
theorem d_cG_typeOfObject_4 : decode prog_1_method_24_code 4 = .ok (.ifCond .eq 22, 3) := by decide +kernel
theorem d_cG_typeOfObject_7 : decode prog_1_method_24_code 7 = .ok (.aload_n 0, 1) := by decide +kernel
theorem d_cG_typeOfObject_8 : decode prog_1_method_24_code 8 = .ok (.getfield 23, 3) := by decide +kernel
theorem d_cG_typeOfObject_11 : decode prog_1_method_24_code 11 = .ok (.getfield 79, 3) := by decide +kernel
theorem d_cG_typeOfObject_14 : decode prog_1_method_24_code 14 = .ok (.aload_n 0, 1) := by decide +kernel
theorem d_cG_typeOfObject_15 : decode prog_1_method_24_code 15 = .ok (.getfield 31, 3) := by decide +kernel
theorem d_cG_typeOfObject_18 : decode prog_1_method_24_code 18 = .ok (.iload_n 1, 1) := by decide +kernel
theorem d_cG_typeOfObject_19 : decode prog_1_method_24_code 19 = .ok (.laload, 1) := by decide +kernel
theorem d_cG_typeOfObject_20 : decode prog_1_method_24_code 20 = .ok (.invokevirtual 183, 3) := by decide +kernel
theorem d_cG_typeOfObject_23 : decode prog_1_method_24_code 23 = .ok (.goto 4, 3) := by decide +kernel
theorem d_cG_typeOfObject_26 : decode prog_1_method_24_code 26 = .ok (.iconst (-1), 1) := by decide +kernel
theorem d_cG_typeOfObject_27 : decode prog_1_method_24_code 27 = .ok (.ireturn, 1) := by decide +kernel
def cG_typeOfObject (x1 : Int32) (S : CS) : Option Int32 := ((cG_isObject x1).bind fun q1 => (if q1 = true then (bd (gR S 0 3) fun r8 => (if kd r8 = 7 then (if inbd x1 10 = true then ((cNames_numberOf (r8 + 1) (gL S 242 (txN x1)) S).bind fun q20 => some q20) else none) else none)) else some (-1)))
set_option maxHeartbeats 4000000 in
set_option maxRecDepth 100000 in
theorem M_cG_typeOfObject {l : Launch} {D : va_G} {cA : Nat → ClassId} {b : Nat} {ad : Nat → Nat} {x1 : Int32} {S : CS} {T : MS × (Nat → Int64)} {rr : Int32}  (h : cG_typeOfObject x1 S = some rr) : Met l y_cG_typeOfObject (Cond.code y_cG_typeOfObject prog_1_method_24_code 2 (Option.some Jvm.ClassFile.FieldType.int) :: TW) { frames := 1, cells := 0, slots := 0, locals := 23 } (va_Pc [.ref (b + 0), .int x1] (Rp D cA b ad (S, T))) (Qr D cA b ad (S, T) (some (.int rr))) 0 0 (Ab b) := by
  refine Ct_of (by decide) (Nat.le_of_ble_eq_true rfl) ?_
  intro p e R s m args below meth c ls Q H locs hR hQ hx hb hts hown hml hr hlk hC hX hS hl
  have hRf : R.frames = 1 := by rw [hR]
  have hRl : R.locals = 23 := by rw [hR]
  have hown : s.vm.findClass "TypeGuard" = some m.cls := hown
  have hl : lv_has ls 2 [(0, .ref (b + 0)), (1, .int x1)] := hl
  rw [cG_typeOfObject] at h
  refine lv_iload_n hx hb d_cG_typeOfObject_0 rfl (lv_at hl 1 rfl) ?_
  obtain ⟨q1, hc1, h⟩ := Option.bind_eq_some_iff.mp h
  refine ck_S (As := [.int x1]) (rest := []) (st1 := [.int (bI q1)]) (M_cG_isObject  hc1) t_393 t_394 t_395 t_1 hx hb hts hown hC hX hS  hml hl.1 ⟨by rw [hRf]; decide, by rw [hRl]; decide⟩ ⟨rfl, rfl⟩ (n := 1) (by decide +kernel) rfl rfl rfl (lv_room (Nat.le_of_ble_eq_true rfl)) d_cG_typeOfObject_1 (fun H locs hX hS => ?_)
  refine lz_ifeq hx hb d_cG_typeOfObject_4 (tgt := 26) (by decide) (fun hc => ?_) (fun hc => ?_)
  · rw [if_neg hc] at h
    refine lv_iconst (v := (-1)) hx hb d_cG_typeOfObject_26 (by decide) ?_
    obtain rfl := Option.some.inj h
    exact rt_i hQ hx hb hr hX hS hlk d_cG_typeOfObject_27
  · rw [if_pos hc] at h
    refine lv_aload_n hx hb d_cG_typeOfObject_7 rfl (lv_at hl 0 rfl) ?_
    refine c_get_0_3 hx hb hts hown hC hX (by rfl) (hts _ t_331) d_cG_typeOfObject_8 ?_
    obtain ⟨r8, e8, h⟩ := bd_some h
    refine lt_R e8 ?_
    by_cases hkr8 : kd r8 = 7
    rotate_left; · rw [if_neg hkr8] at h; cases h
    rw [if_pos hkr8] at h
    refine c_get_7_0N (k := r8) hx hb hts hown hC hX hkr8 (va_Nw.use rfl (hC.2.1 _ t_186)) d_cG_typeOfObject_11 ?_
    refine lv_aload_n hx hb d_cG_typeOfObject_14 rfl (lv_at hl 0 rfl) ?_
    refine c_get_0_6 hx hb hts hown hC hX (by rfl) (hts _ t_334) d_cG_typeOfObject_15 ?_
    refine lv_iload_n hx hb d_cG_typeOfObject_18 rfl (lv_at hl 1 rfl) ?_
    by_cases hg19 : inbd x1 10 = true
    rotate_left; · rw [if_neg hg19] at h; cases h
    rw [if_pos hg19] at h
    refine c_ald_18 (k := 242) hx hb hC hX (by rfl) hg19 d_cG_typeOfObject_19 ?_
    obtain ⟨q20, hc20, h⟩ := Option.bind_eq_some_iff.mp h
    refine ck_V (As := [.long (gL S 242 (txN x1))]) (rest := []) (st1 := [.int q20]) (M_cNames_numberOf (kx_7_1 hkr8) hc20) t_385 t_386 t_387 t_388 t_5 hx hb hts hown hC hX hS (hrc_c8 hC hX (kx_7_1 hkr8)) hml hl.1 ⟨by rw [hRf]; decide, by rw [hRl]; decide⟩ ⟨rfl, rfl⟩ (n := 1) (by decide +kernel) rfl rfl rfl (lv_room (Nat.le_of_ble_eq_true rfl)) d_cG_typeOfObject_20 (fun H locs hX hS => ?_)
    refine lv_goto hx hb d_cG_typeOfObject_23 (tgt := 27) (by decide) ?_
    obtain rfl := Option.some.inj h
    exact rt_i hQ hx hb hr hX hS hlk d_cG_typeOfObject_27
abbrev y_cG_classOfObject : MethodName := ({ cls := "TypeGuard", name := "classOfObject", desc := "(I)I" } : Jvm.MethodName)
theorem d_cG_classOfObject_0 : decode prog_1_method_25_code 0 = .ok (.iload_n 1, 1) := by decide +kernel
theorem d_cG_classOfObject_1 : decode prog_1_method_25_code 1 = .ok (.invokestatic 139, 3) := by decide +kernel
theorem d_cG_classOfObject_4 : decode prog_1_method_25_code 4 = .ok (.ifCond .eq 22, 3) := by decide +kernel
theorem d_cG_classOfObject_7 : decode prog_1_method_25_code 7 = .ok (.aload_n 0, 1) := by decide +kernel
theorem d_cG_classOfObject_8 : decode prog_1_method_25_code 8 = .ok (.getfield 23, 3) := by decide +kernel
theorem d_cG_classOfObject_11 : decode prog_1_method_25_code 11 = .ok (.getfield 88, 3) := by decide +kernel
theorem d_cG_classOfObject_14 : decode prog_1_method_25_code 14 = .ok (.aload_n 0, 1) := by decide +kernel
theorem d_cG_classOfObject_15 : decode prog_1_method_25_code 15 = .ok (.getfield 34, 3) := by decide +kernel
theorem d_cG_classOfObject_18 : decode prog_1_method_25_code 18 = .ok (.iload_n 1, 1) := by decide +kernel
theorem d_cG_classOfObject_19 : decode prog_1_method_25_code 19 = .ok (.laload, 1) := by decide +kernel
theorem d_cG_classOfObject_20 : decode prog_1_method_25_code 20 = .ok (.invokevirtual 183, 3) := by decide +kernel
theorem d_cG_classOfObject_23 : decode prog_1_method_25_code 23 = .ok (.goto 4, 3) := by decide +kernel
theorem d_cG_classOfObject_26 : decode prog_1_method_25_code 26 = .ok (.iconst (-1), 1) := by decide +kernel
theorem d_cG_classOfObject_27 : decode prog_1_method_25_code 27 = .ok (.ireturn, 1) := by decide +kernel
def cG_classOfObject (x1 : Int32) (S : CS) : Option Int32 := ((cG_isObject x1).bind fun q1 => (if q1 = true then (bd (gR S 0 3) fun r8 => (if kd r8 = 7 then (if inbd x1 10 = true then ((cNames_numberOf (r8 + 5) (gL S 243 (txN x1)) S).bind fun q20 => some q20) else none) else none)) else some (-1)))
set_option maxHeartbeats 4000000 in
set_option maxRecDepth 100000 in
theorem M_cG_classOfObject {l : Launch} {D : va_G} {cA : Nat → ClassId} {b : Nat} {ad : Nat → Nat} {x1 : Int32} {S : CS} {T : MS × (Nat → Int64)} {rr : Int32}  (h : cG_classOfObject x1 S = some rr) : Met l y_cG_classOfObject (Cond.code y_cG_classOfObject prog_1_method_25_code 2 (Option.some Jvm.ClassFile.FieldType.int) :: TW) { frames := 1, cells := 0, slots := 0, locals := 23 } (va_Pc [.ref (b + 0), .int x1] (Rp D cA b ad (S, T))) (Qr D cA b ad (S, T) (some (.int rr))) 0 0 (Ab b) := by
  refine Ct_of (by decide) (Nat.le_of_ble_eq_true rfl) ?_
  intro p e R s m args below meth c ls Q H locs hR hQ hx hb hts hown hml hr hlk hC hX hS hl
  have hRf : R.frames = 1 := by rw [hR]
  have hRl : R.locals = 23 := by rw [hR]
  have hown : s.vm.findClass "TypeGuard" = some m.cls := hown
  have hl : lv_has ls 2 [(0, .ref (b + 0)), (1, .int x1)] := hl
  rw [cG_classOfObject] at h
  refine lv_iload_n hx hb d_cG_classOfObject_0 rfl (lv_at hl 1 rfl) ?_
  obtain ⟨q1, hc1, h⟩ := Option.bind_eq_some_iff.mp h
  refine ck_S (As := [.int x1]) (rest := []) (st1 := [.int (bI q1)]) (M_cG_isObject  hc1) t_393 t_394 t_395 t_1 hx hb hts hown hC hX hS  hml hl.1 ⟨by rw [hRf]; decide, by rw [hRl]; decide⟩ ⟨rfl, rfl⟩ (n := 1) (by decide +kernel) rfl rfl rfl (lv_room (Nat.le_of_ble_eq_true rfl)) d_cG_classOfObject_1 (fun H locs hX hS => ?_)
  refine lz_ifeq hx hb d_cG_classOfObject_4 (tgt := 26) (by decide) (fun hc => ?_) (fun hc => ?_)
  · rw [if_neg hc] at h
    refine lv_iconst (v := (-1)) hx hb d_cG_classOfObject_26 (by decide) ?_
    obtain rfl := Option.some.inj h
    exact rt_i hQ hx hb hr hX hS hlk d_cG_classOfObject_27
  · rw [if_pos hc] at h
    refine lv_aload_n hx hb d_cG_classOfObject_7 rfl (lv_at hl 0 rfl) ?_
    refine c_get_0_3 hx hb hts hown hC hX (by rfl) (hts _ t_331) d_cG_classOfObject_8 ?_
    obtain ⟨r8, e8, h⟩ := bd_some h
    refine lt_R e8 ?_
    by_cases hkr8 : kd r8 = 7
    rotate_left; · rw [if_neg hkr8] at h; cases h
    rw [if_pos hkr8] at h
    refine c_get_7_2N (k := r8) hx hb hts hown hC hX hkr8 (va_Nw.use rfl (hC.2.1 _ t_191)) d_cG_classOfObject_11 ?_
    refine lv_aload_n hx hb d_cG_classOfObject_14 rfl (lv_at hl 0 rfl) ?_
    refine c_get_0_7 hx hb hts hown hC hX (by rfl) (hts _ t_335) d_cG_classOfObject_15 ?_
    refine lv_iload_n hx hb d_cG_classOfObject_18 rfl (lv_at hl 1 rfl) ?_
    by_cases hg19 : inbd x1 10 = true
    rotate_left; · rw [if_neg hg19] at h; cases h
    rw [if_pos hg19] at h
    refine c_ald_19 (k := 243) hx hb hC hX (by rfl) hg19 d_cG_classOfObject_19 ?_
    obtain ⟨q20, hc20, h⟩ := Option.bind_eq_some_iff.mp h
    refine ck_V (As := [.long (gL S 243 (txN x1))]) (rest := []) (st1 := [.int q20]) (M_cNames_numberOf (kx_7_5 hkr8) hc20) t_385 t_386 t_387 t_388 t_5 hx hb hts hown hC hX hS (hrc_c8 hC hX (kx_7_5 hkr8)) hml hl.1 ⟨by rw [hRf]; decide, by rw [hRl]; decide⟩ ⟨rfl, rfl⟩ (n := 1) (by decide +kernel) rfl rfl rfl (lv_room (Nat.le_of_ble_eq_true rfl)) d_cG_classOfObject_20 (fun H locs hX hS => ?_)
    refine lv_goto hx hb d_cG_classOfObject_23 (tgt := 27) (by decide) ?_
    obtain rfl := Option.some.inj h
    exact rt_i hQ hx hb hr hX hS hlk d_cG_classOfObject_27
abbrev y_cG_label : MethodName := ({ cls := "TypeGuard", name := "label", desc := "(II)I" } : Jvm.MethodName)
theorem d_cG_label_0 : decode prog_1_method_11_code 0 = .ok (.iload_n 1, 1) := by decide +kernel
theorem d_cG_label_1 : decode prog_1_method_11_code 1 = .ok (.tableswitch 45 0 2 #[27, 33, 39], 27) := by decide +kernel
theorem d_cG_label_28 : decode prog_1_method_11_code 28 = .ok (.aload_n 0, 1) := by decide +kernel
theorem d_cG_label_29 : decode prog_1_method_11_code 29 = .ok (.iload_n 2, 1) := by decide +kernel
theorem d_cG_label_30 : decode prog_1_method_11_code 30 = .ok (.invokevirtual 142, 3) := by decide +kernel
theorem d_cG_label_33 : decode prog_1_method_11_code 33 = .ok (.ireturn, 1) := by decide +kernel
theorem d_cG_label_34 : decode prog_1_method_11_code 34 = .ok (.aload_n 0, 1) := by decide +kernel
theorem d_cG_label_35 : decode prog_1_method_11_code 35 = .ok (.iload_n 2, 1) := by decide +kernel
theorem d_cG_label_36 : decode prog_1_method_11_code 36 = .ok (.invokevirtual 146, 3) := by decide +kernel
theorem d_cG_label_39 : decode prog_1_method_11_code 39 = .ok (.ireturn, 1) := by decide +kernel
theorem d_cG_label_40 : decode prog_1_method_11_code 40 = .ok (.aload_n 0, 1) := by decide +kernel
theorem d_cG_label_41 : decode prog_1_method_11_code 41 = .ok (.iload_n 2, 1) := by decide +kernel
theorem d_cG_label_42 : decode prog_1_method_11_code 42 = .ok (.invokevirtual 149, 3) := by decide +kernel
theorem d_cG_label_45 : decode prog_1_method_11_code 45 = .ok (.ireturn, 1) := by decide +kernel
theorem d_cG_label_46 : decode prog_1_method_11_code 46 = .ok (.iconst (-1), 1) := by decide +kernel
theorem d_cG_label_47 : decode prog_1_method_11_code 47 = .ok (.ireturn, 1) := by decide +kernel
def cG_label (x1 : Int32) (x2 : Int32) (S : CS) : Option Int32 := (if x1 = 0 then ((cG_typeOfProcess x2 S).bind fun q30 => some q30) else (if x1 = 1 then ((cG_typeOfObject x2 S).bind fun q36 => some q36) else (if x1 = 2 then ((cG_classOfObject x2 S).bind fun q42 => some q42) else some (-1))))
set_option maxHeartbeats 4000000 in
set_option maxRecDepth 100000 in
theorem M_cG_label {l : Launch} {D : va_G} {cA : Nat → ClassId} {b : Nat} {ad : Nat → Nat} {x1 : Int32} {x2 : Int32} {S : CS} {T : MS × (Nat → Int64)} {rr : Int32}  (h : cG_label x1 x2 S = some rr) : Met l y_cG_label (Cond.code y_cG_label prog_1_method_11_code 3 (Option.some Jvm.ClassFile.FieldType.int) :: TW) { frames := 2, cells := 0, slots := 0, locals := 44 } (va_Pc [.ref (b + 0), .int x1, .int x2] (Rp D cA b ad (S, T))) (Qr D cA b ad (S, T) (some (.int rr))) 0 0 (Ab b) := by
  refine Ct_of (by decide) (Nat.le_of_ble_eq_true rfl) ?_
  intro p e R s m args below meth c ls Q H locs hR hQ hx hb hts hown hml hr hlk hC hX hS hl
  have hRf : R.frames = 2 := by rw [hR]
  have hRl : R.locals = 44 := by rw [hR]
  have hown : s.vm.findClass "TypeGuard" = some m.cls := hown
  have hl : lv_has ls 3 [(0, .ref (b + 0)), (1, .int x1), (2, .int x2)] := hl
  rw [cG_label] at h
  refine lv_iload_n hx hb d_cG_label_0 rfl (lv_at hl 1 rfl) ?_
  by_cases hc0 : x1 = 0
  · rw [if_pos hc0] at h
    refine tb_in (k := 0) hx hb d_cG_label_1 hc0 (off := 27) (by decide) (by decide) (by decide) (tgt := 28) (by decide) ?_
    refine lv_aload_n hx hb d_cG_label_28 rfl (lv_at hl 0 rfl) ?_
    refine lv_iload_n hx hb d_cG_label_29 rfl (lv_at hl 2 rfl) ?_
    obtain ⟨q30, hc30, h⟩ := Option.bind_eq_some_iff.mp h
    refine ck_V (As := [.int x2]) (rest := []) (st1 := [.int q30]) (M_cG_typeOfProcess  hc30) t_378 t_380 p_0 t_381 t_1 hx hb hts hown hC hX hS (hrc_c0 hC hX (by rfl)) hml hl.1 ⟨by rw [hRf]; decide, by rw [hRl]; decide⟩ ⟨rfl, rfl⟩ (n := 1) (by decide +kernel) rfl rfl rfl (lv_room (Nat.le_of_ble_eq_true rfl)) d_cG_label_30 (fun H locs hX hS => ?_)
    obtain rfl := Option.some.inj h
    exact rt_i hQ hx hb hr hX hS hlk d_cG_label_33
  rw [if_neg hc0] at h
  by_cases hc1 : x1 = 1
  · rw [if_pos hc1] at h
    refine tb_in (k := 1) hx hb d_cG_label_1 hc1 (off := 33) (by decide) (by decide) (by decide) (tgt := 34) (by decide) ?_
    refine lv_aload_n hx hb d_cG_label_34 rfl (lv_at hl 0 rfl) ?_
    refine lv_iload_n hx hb d_cG_label_35 rfl (lv_at hl 2 rfl) ?_
    obtain ⟨q36, hc36, h⟩ := Option.bind_eq_some_iff.mp h
    refine ck_V (As := [.int x2]) (rest := []) (st1 := [.int q36]) (M_cG_typeOfObject  hc36) t_389 t_391 p_1 t_392 t_1 hx hb hts hown hC hX hS (hrc_c0 hC hX (by rfl)) hml hl.1 ⟨by rw [hRf]; decide, by rw [hRl]; decide⟩ ⟨rfl, rfl⟩ (n := 1) (by decide +kernel) rfl rfl rfl (lv_room (Nat.le_of_ble_eq_true rfl)) d_cG_label_36 (fun H locs hX hS => ?_)
    obtain rfl := Option.some.inj h
    exact rt_i hQ hx hb hr hX hS hlk d_cG_label_39
  rw [if_neg hc1] at h
  by_cases hc2 : x1 = 2
  · rw [if_pos hc2] at h
    refine tb_in (k := 2) hx hb d_cG_label_1 hc2 (off := 39) (by decide) (by decide) (by decide) (tgt := 40) (by decide) ?_
    refine lv_aload_n hx hb d_cG_label_40 rfl (lv_at hl 0 rfl) ?_
    refine lv_iload_n hx hb d_cG_label_41 rfl (lv_at hl 2 rfl) ?_
    obtain ⟨q42, hc42, h⟩ := Option.bind_eq_some_iff.mp h
    refine ck_V (As := [.int x2]) (rest := []) (st1 := [.int q42]) (M_cG_classOfObject  hc42) t_396 t_398 p_2 t_399 t_1 hx hb hts hown hC hX hS (hrc_c0 hC hX (by rfl)) hml hl.1 ⟨by rw [hRf]; decide, by rw [hRl]; decide⟩ ⟨rfl, rfl⟩ (n := 1) (by decide +kernel) rfl rfl rfl (lv_room (Nat.le_of_ble_eq_true rfl)) d_cG_label_42 (fun H locs hX hS => ?_)
    obtain rfl := Option.some.inj h
    exact rt_i hQ hx hb hr hX hS hlk d_cG_label_45
  rw [if_neg hc2] at h
  refine tb_out hx hb d_cG_label_1 (by have n0 := ni_ne (a := 0) (by decide) hc0; have n1 := ni_ne (a := 1) (by decide) hc1; have n2 := ni_ne (a := 2) (by decide) hc2; omega) (tgt := 46) (by decide) ?_
  refine lv_iconst (v := (-1)) hx hb d_cG_label_46 (by decide) ?_
  obtain rfl := Option.some.inj h
  exact rt_i hQ hx hb hr hX hS hlk d_cG_label_47
abbrev y_cG_areLabelled : MethodName := ({ cls := "TypeGuard", name := "areLabelled", desc := "(II)Z" } : Jvm.MethodName)
theorem d_cG_areLabelled_0 : decode prog_1_method_22_code 0 = .ok (.aload_n 0, 1) := by decide +kernel
theorem d_cG_areLabelled_1 : decode prog_1_method_22_code 1 = .ok (.iload_n 1, 1) := by decide +kernel
theorem d_cG_areLabelled_2 : decode prog_1_method_22_code 2 = .ok (.invokevirtual 142, 3) := by decide +kernel
theorem d_cG_areLabelled_5 : decode prog_1_method_22_code 5 = .ok (.iconst (-1), 1) := by decide +kernel
theorem d_cG_areLabelled_6 : decode prog_1_method_22_code 6 = .ok (.if_icmp .eq 25, 3) := by decide +kernel
theorem d_cG_areLabelled_9 : decode prog_1_method_22_code 9 = .ok (.aload_n 0, 1) := by decide +kernel
theorem d_cG_areLabelled_10 : decode prog_1_method_22_code 10 = .ok (.iload_n 2, 1) := by decide +kernel
theorem d_cG_areLabelled_11 : decode prog_1_method_22_code 11 = .ok (.invokevirtual 146, 3) := by decide +kernel
theorem d_cG_areLabelled_14 : decode prog_1_method_22_code 14 = .ok (.iconst (-1), 1) := by decide +kernel
theorem d_cG_areLabelled_15 : decode prog_1_method_22_code 15 = .ok (.if_icmp .eq 16, 3) := by decide +kernel
theorem d_cG_areLabelled_18 : decode prog_1_method_22_code 18 = .ok (.aload_n 0, 1) := by decide +kernel
theorem d_cG_areLabelled_19 : decode prog_1_method_22_code 19 = .ok (.iload_n 2, 1) := by decide +kernel
theorem d_cG_areLabelled_20 : decode prog_1_method_22_code 20 = .ok (.invokevirtual 149, 3) := by decide +kernel
theorem d_cG_areLabelled_23 : decode prog_1_method_22_code 23 = .ok (.iconst (-1), 1) := by decide +kernel
theorem d_cG_areLabelled_24 : decode prog_1_method_22_code 24 = .ok (.if_icmp .eq 7, 3) := by decide +kernel
theorem d_cG_areLabelled_27 : decode prog_1_method_22_code 27 = .ok (.iconst 1, 1) := by decide +kernel
theorem d_cG_areLabelled_28 : decode prog_1_method_22_code 28 = .ok (.goto 4, 3) := by decide +kernel
theorem d_cG_areLabelled_31 : decode prog_1_method_22_code 31 = .ok (.iconst 0, 1) := by decide +kernel
theorem d_cG_areLabelled_32 : decode prog_1_method_22_code 32 = .ok (.ireturn, 1) := by decide +kernel
def cG_areLabelled (x1 : Int32) (x2 : Int32) (S : CS) : Option Bool := ((cG_typeOfProcess x1 S).bind fun q2 => (if q2 = (-1) then some false else ((cG_typeOfObject x2 S).bind fun q11 => (if q11 = (-1) then some false else ((cG_classOfObject x2 S).bind fun q20 => (if q20 = (-1) then some false else some true))))))
set_option maxHeartbeats 4000000 in
set_option maxRecDepth 100000 in
theorem M_cG_areLabelled {l : Launch} {D : va_G} {cA : Nat → ClassId} {b : Nat} {ad : Nat → Nat} {x1 : Int32} {x2 : Int32} {S : CS} {T : MS × (Nat → Int64)} {rr : Bool}  (h : cG_areLabelled x1 x2 S = some rr) : Met l y_cG_areLabelled (Cond.code y_cG_areLabelled prog_1_method_22_code 3 (Option.some Jvm.ClassFile.FieldType.boolean) :: TW) { frames := 2, cells := 0, slots := 0, locals := 44 } (va_Pc [.ref (b + 0), .int x1, .int x2] (Rp D cA b ad (S, T))) (Qr D cA b ad (S, T) (some (.int (bI rr)))) 0 0 (Ab b) := by
  refine Ct_of (by decide) (Nat.le_of_ble_eq_true rfl) ?_
  intro p e R s m args below meth c ls Q H locs hR hQ hx hb hts hown hml hr hlk hC hX hS hl
  have hRf : R.frames = 2 := by rw [hR]
  have hRl : R.locals = 44 := by rw [hR]
  have hown : s.vm.findClass "TypeGuard" = some m.cls := hown
  have hl : lv_has ls 3 [(0, .ref (b + 0)), (1, .int x1), (2, .int x2)] := hl
  rw [cG_areLabelled] at h
  refine lv_aload_n hx hb d_cG_areLabelled_0 rfl (lv_at hl 0 rfl) ?_
  refine lv_iload_n hx hb d_cG_areLabelled_1 rfl (lv_at hl 1 rfl) ?_
  obtain ⟨q2, hc2, h⟩ := Option.bind_eq_some_iff.mp h
  refine ck_V (As := [.int x1]) (rest := []) (st1 := [.int q2]) (M_cG_typeOfProcess  hc2) t_378 t_380 p_0 t_381 t_1 hx hb hts hown hC hX hS (hrc_c0 hC hX (by rfl)) hml hl.1 ⟨by rw [hRf]; decide, by rw [hRl]; decide⟩ ⟨rfl, rfl⟩ (n := 1) (by decide +kernel) rfl rfl rfl (lv_room (Nat.le_of_ble_eq_true rfl)) d_cG_areLabelled_2 (fun H locs hX hS => ?_)
  refine lv_iconst (v := (-1)) hx hb d_cG_areLabelled_5 (by decide) ?_
  refine lv_icmp_eq hx hb d_cG_areLabelled_6 (tgt := 31) (by decide) (fun hc => ?_) (fun hc => ?_)
  · rw [if_pos hc] at h
    refine lv_iconst (v := 0) hx hb d_cG_areLabelled_31 (by decide) ?_
    obtain rfl := Option.some.inj h
    exact rt_zf hQ hx hb hr hX hS hlk d_cG_areLabelled_32
  · rw [if_neg hc] at h
    refine lv_aload_n hx hb d_cG_areLabelled_9 rfl (lv_at hl 0 rfl) ?_
    refine lv_iload_n hx hb d_cG_areLabelled_10 rfl (lv_at hl 2 rfl) ?_
    obtain ⟨q11, hc11, h⟩ := Option.bind_eq_some_iff.mp h
    refine ck_V (As := [.int x2]) (rest := []) (st1 := [.int q11]) (M_cG_typeOfObject  hc11) t_389 t_391 p_1 t_392 t_1 hx hb hts hown hC hX hS (hrc_c0 hC hX (by rfl)) hml hl.1 ⟨by rw [hRf]; decide, by rw [hRl]; decide⟩ ⟨rfl, rfl⟩ (n := 1) (by decide +kernel) rfl rfl rfl (lv_room (Nat.le_of_ble_eq_true rfl)) d_cG_areLabelled_11 (fun H locs hX hS => ?_)
    refine lv_iconst (v := (-1)) hx hb d_cG_areLabelled_14 (by decide) ?_
    refine lv_icmp_eq hx hb d_cG_areLabelled_15 (tgt := 31) (by decide) (fun hc => ?_) (fun hc => ?_)
    · rw [if_pos hc] at h
      refine lv_iconst (v := 0) hx hb d_cG_areLabelled_31 (by decide) ?_
      obtain rfl := Option.some.inj h
      exact rt_zf hQ hx hb hr hX hS hlk d_cG_areLabelled_32
    · rw [if_neg hc] at h
      refine lv_aload_n hx hb d_cG_areLabelled_18 rfl (lv_at hl 0 rfl) ?_
      refine lv_iload_n hx hb d_cG_areLabelled_19 rfl (lv_at hl 2 rfl) ?_
      obtain ⟨q20, hc20, h⟩ := Option.bind_eq_some_iff.mp h
      refine ck_V (As := [.int x2]) (rest := []) (st1 := [.int q20]) (M_cG_classOfObject  hc20) t_396 t_398 p_2 t_399 t_1 hx hb hts hown hC hX hS (hrc_c0 hC hX (by rfl)) hml hl.1 ⟨by rw [hRf]; decide, by rw [hRl]; decide⟩ ⟨rfl, rfl⟩ (n := 1) (by decide +kernel) rfl rfl rfl (lv_room (Nat.le_of_ble_eq_true rfl)) d_cG_areLabelled_20 (fun H locs hX hS => ?_)
      refine lv_iconst (v := (-1)) hx hb d_cG_areLabelled_23 (by decide) ?_
      refine lv_icmp_eq hx hb d_cG_areLabelled_24 (tgt := 31) (by decide) (fun hc => ?_) (fun hc => ?_)
      · rw [if_pos hc] at h
        refine lv_iconst (v := 0) hx hb d_cG_areLabelled_31 (by decide) ?_
        obtain rfl := Option.some.inj h
        exact rt_zf hQ hx hb hr hX hS hlk d_cG_areLabelled_32
      · rw [if_neg hc] at h
        refine lv_iconst (v := 1) hx hb d_cG_areLabelled_27 (by decide) ?_
        refine lv_goto hx hb d_cG_areLabelled_28 (tgt := 32) (by decide) ?_
        obtain rfl := Option.some.inj h
        exact rt_zt hQ hx hb hr hX hS hlk d_cG_areLabelled_32
abbrev y_cVectorCache_find : MethodName := ({ cls := "TypeGuard$VectorCache", name := "find", desc := "(III)I" } : Jvm.MethodName)
theorem d_cVectorCache_find_0 : decode prog_11_method_4_code 0 = .ok (.iconst 0, 1) := by decide +kernel
theorem d_cVectorCache_find_1 : decode prog_11_method_4_code 1 = .ok (.istore 4, 2) := by decide +kernel
theorem d_cVectorCache_find_3 : decode prog_11_method_4_code 3 = .ok (.iload 4, 2) := by decide +kernel
theorem d_cVectorCache_find_5 : decode prog_11_method_4_code 5 = .ok (.aload_n 0, 1) := by decide +kernel
theorem d_cVectorCache_find_6 : decode prog_11_method_4_code 6 = .ok (.getfield 51, 3) := by decide +kernel
theorem d_cVectorCache_find_9 : decode prog_11_method_4_code 9 = .ok (.if_icmp .ge 48, 3) := by decide +kernel
theorem d_cVectorCache_find_12 : decode prog_11_method_4_code 12 = .ok (.aload_n 0, 1) := by decide +kernel
theorem d_cVectorCache_find_13 : decode prog_11_method_4_code 13 = .ok (.getfield 11, 3) := by decide +kernel
theorem d_cVectorCache_find_16 : decode prog_11_method_4_code 16 = .ok (.iload 4, 2) := by decide +kernel
theorem d_cVectorCache_find_18 : decode prog_11_method_4_code 18 = .ok (.aaload, 1) := by decide +kernel
theorem d_cVectorCache_find_19 : decode prog_11_method_4_code 19 = .ok (.astore 5, 2) := by decide +kernel
theorem d_cVectorCache_find_21 : decode prog_11_method_4_code 21 = .ok (.aload 5, 2) := by decide +kernel
theorem d_cVectorCache_find_23 : decode prog_11_method_4_code 23 = .ok (.getfield 26, 3) := by decide +kernel
theorem d_cVectorCache_find_26 : decode prog_11_method_4_code 26 = .ok (.iload_n 1, 1) := by decide +kernel
theorem d_cVectorCache_find_27 : decode prog_11_method_4_code 27 = .ok (.if_icmp .ne 24, 3) := by decide +kernel
theorem d_cVectorCache_find_30 : decode prog_11_method_4_code 30 = .ok (.aload 5, 2) := by decide +kernel
theorem d_cVectorCache_find_32 : decode prog_11_method_4_code 32 = .ok (.getfield 30, 3) := by decide +kernel
theorem d_cVectorCache_find_35 : decode prog_11_method_4_code 35 = .ok (.iload_n 2, 1) := by decide +kernel
theorem d_cVectorCache_find_36 : decode prog_11_method_4_code 36 = .ok (.if_icmp .ne 15, 3) := by decide +kernel
theorem d_cVectorCache_find_39 : decode prog_11_method_4_code 39 = .ok (.aload 5, 2) := by decide +kernel
theorem d_cVectorCache_find_41 : decode prog_11_method_4_code 41 = .ok (.getfield 33, 3) := by decide +kernel
theorem d_cVectorCache_find_44 : decode prog_11_method_4_code 44 = .ok (.iload_n 3, 1) := by decide +kernel
theorem d_cVectorCache_find_45 : decode prog_11_method_4_code 45 = .ok (.if_icmp .ne 6, 3) := by decide +kernel
theorem d_cVectorCache_find_48 : decode prog_11_method_4_code 48 = .ok (.iload 4, 2) := by decide +kernel
theorem d_cVectorCache_find_50 : decode prog_11_method_4_code 50 = .ok (.ireturn, 1) := by decide +kernel
theorem d_cVectorCache_find_51 : decode prog_11_method_4_code 51 = .ok (.iinc 4 1, 3) := by decide +kernel
theorem d_cVectorCache_find_54 : decode prog_11_method_4_code 54 = .ok (.goto (-51), 3) := by decide +kernel
theorem d_cVectorCache_find_57 : decode prog_11_method_4_code 57 = .ok (.iconst (-1), 1) := by decide +kernel
theorem d_cVectorCache_find_58 : decode prog_11_method_4_code 58 = .ok (.ireturn, 1) := by decide +kernel
def cVectorCache_find_L3 (v1_3 : Int32) (v2_3 : Int32) (v3_3 : Int32) (S_3 : CS) : Nat → Int32 → Option Int32
  | 0, _ => none
  | n + 1, v4_3 => (if (gI S_3 244 1) ≤ v4_3 then some (-1) else (if inbd v4_3 6 = true then (bd ((245 + (1 + txN v4_3))) fun a18 => (if (gI S_3 a18 0) = v1_3 then (if (gI S_3 a18 1) = v2_3 then (if (gI S_3 a18 2) = v3_3 then some v4_3 else (bd ((v4_3 + 1)) fun a51 => (cVectorCache_find_L3 v1_3 v2_3 v3_3 S_3 n) a51)) else (bd ((v4_3 + 1)) fun a51 => (cVectorCache_find_L3 v1_3 v2_3 v3_3 S_3 n) a51)) else (bd ((v4_3 + 1)) fun a51 => (cVectorCache_find_L3 v1_3 v2_3 v3_3 S_3 n) a51))) else none))
def cVectorCache_find (x1 : Int32) (x2 : Int32) (x3 : Int32) (S : CS) : Option Int32 := cVectorCache_find_L3 x1 x2 x3 S 600 0
set_option maxHeartbeats 4000000 in
set_option maxRecDepth 100000 in
theorem M_cVectorCache_find {l : Launch} {D : va_G} {cA : Nat → ClassId} {b : Nat} {ad : Nat → Nat} {x1 : Int32} {x2 : Int32} {x3 : Int32} {S : CS} {T : MS × (Nat → Int64)} {rr : Int32}  (h : cVectorCache_find x1 x2 x3 S = some rr) : Met l y_cVectorCache_find (Cond.code y_cVectorCache_find prog_11_method_4_code 6 (Option.some Jvm.ClassFile.FieldType.int) :: TW) { frames := 0, cells := 0, slots := 0, locals := 0 } (va_Pc [.ref (b + 244), .int x1, .int x2, .int x3] (Rp D cA b ad (S, T))) (Qr D cA b ad (S, T) (some (.int rr))) 0 0 (Ab b) := by
  refine Ct_of (by decide) (Nat.le_of_ble_eq_true rfl) ?_
  intro p e R s m args below meth c ls Q H locs hR hQ hx hb hts hown hml hr hlk hC hX hS hl
  have hRf : R.frames = 0 := by rw [hR]
  have hRl : R.locals = 0 := by rw [hR]
  have hown : s.vm.findClass "TypeGuard$VectorCache" = some m.cls := hown
  have hl : lv_has ls 6 [(0, .ref (b + 244)), (1, .int x1), (2, .int x2), (3, .int x3)] := hl
  rw [cVectorCache_find] at h
  refine lv_iconst (v := 0) hx hb d_cVectorCache_find_0 (by decide) ?_
  refine lv_istore (lv' := [(4, .int 0), (0, .ref (b + 244)), (1, .int x1), (2, .int x2), (3, .int x3)]) hx hb d_cVectorCache_find_1 hl (by decide) rfl (fun ls hl => ?_)
  have L3 : ∀ (n3 : Nat) (v4_3 : Int32) (H : Heap) (locs : List Loc) (ls : Array Slot), hp D cA b ad (S, T) H → va_S (Ab b) s.heap H locs → lv_has ls 6 [(0, .ref (b + 244)), (1, .int x1), (2, .int x2), (3, .int x3), (4, .int v4_3)] → cVectorCache_find_L3 x1 x2 x3 S n3 v4_3 = some rr → W p l e R s m args below meth c H locs 0 0 Q (F0 m 3 ls []) := by
    intro n3; induction n3 with
    | zero => intro v4_3 H locs ls  hX hS hl h; rw [cVectorCache_find_L3] at h; cases h
    | succ n3 ih3 =>
      intro v4_3 H locs ls  hX hS hl h
      rw [cVectorCache_find_L3] at h
      refine lv_iload hx hb d_cVectorCache_find_3 (lv_at hl 4 rfl) ?_
      refine lv_aload_n hx hb d_cVectorCache_find_5 rfl (lv_at hl 0 rfl) ?_
      refine c_get_20_1 hx hb hts hown hC hX (by rfl) (hts _ t_294) d_cVectorCache_find_6 ?_
      refine lv_icmp_ge hx hb d_cVectorCache_find_9 (tgt := 57) (by decide) (fun hc => ?_) (fun hc => ?_)
      · rw [if_pos hc] at h
        refine lv_iconst (v := (-1)) hx hb d_cVectorCache_find_57 (by decide) ?_
        obtain rfl := Option.some.inj h
        exact rt_i hQ hx hb hr hX hS hlk d_cVectorCache_find_58
      · rw [if_neg hc] at h
        refine lv_aload_n hx hb d_cVectorCache_find_12 rfl (lv_at hl 0 rfl) ?_
        refine c_get_20_0 hx hb hts hown hC hX (by rfl) (hts _ t_293) d_cVectorCache_find_13 ?_
        refine lv_iload hx hb d_cVectorCache_find_16 (lv_at hl 4 rfl) ?_
        by_cases hg18 : inbd v4_3 6 = true
        rotate_left; · rw [if_neg hg18] at h; cases h
        rw [if_pos hg18] at h
        refine c_ald_21 (k := 245) hx hb hC hX (by rfl) hg18 d_cVectorCache_find_18 ?_
        obtain ⟨a18, e18, h⟩ := bd_some h
        refine lt_R e18 ?_
        have hka18 := (ke_21 (k := 245) (by rfl) (inbd_lt hg18))
        rw [← e18] at hka18
        refine lv_astore (lv' := [(5, .ref (b + a18)), (0, .ref (b + 244)), (1, .int x1), (2, .int x2), (3, .int x3), (4, .int v4_3)]) hx hb d_cVectorCache_find_19 hl (by decide) rfl (fun ls hl => ?_)
        refine lv_aload hx hb d_cVectorCache_find_21 (lv_at hl 0 rfl) ?_
        refine c_get_22_0N (k := a18) hx hb hts hown hC hX hka18 (va_Nw.use rfl (hC.2.1 _ t_263)) d_cVectorCache_find_23 ?_
        refine lv_iload_n hx hb d_cVectorCache_find_26 rfl (lv_at hl 2 rfl) ?_
        refine lv_icmp_ne hx hb d_cVectorCache_find_27 (tgt := 51) (by decide) (fun hc => ?_) (fun hc => ?_)
        · rw [if_neg hc] at h
          obtain ⟨a51, e51, h⟩ := bd_some h
          refine lv_iinc (v := a51) (lv' := [(4, .int a51), (5, .ref (b + a18)), (0, .ref (b + 244)), (1, .int x1), (2, .int x2), (3, .int x3)]) hx hb d_cVectorCache_find_51 hl (k := 5) rfl e51.symm (by decide) rfl (fun ls hl => ?_)
          refine lv_goto hx hb d_cVectorCache_find_54 (tgt := 3) (by decide) ?_
          exact ih3 a51 H locs ls  hX hS (lv_sub hl [2, 3, 4, 5, 0] rfl) h
        · rw [if_pos hc] at h
          refine lv_aload hx hb d_cVectorCache_find_30 (lv_at hl 0 rfl) ?_
          refine c_get_22_1N (k := a18) hx hb hts hown hC hX hka18 (va_Nw.use rfl (hC.2.1 _ t_265)) d_cVectorCache_find_32 ?_
          refine lv_iload_n hx hb d_cVectorCache_find_35 rfl (lv_at hl 3 rfl) ?_
          refine lv_icmp_ne hx hb d_cVectorCache_find_36 (tgt := 51) (by decide) (fun hc => ?_) (fun hc => ?_)
          · rw [if_neg hc] at h
            obtain ⟨a51, e51, h⟩ := bd_some h
            refine lv_iinc (v := a51) (lv' := [(4, .int a51), (5, .ref (b + a18)), (0, .ref (b + 244)), (1, .int x1), (2, .int x2), (3, .int x3)]) hx hb d_cVectorCache_find_51 hl (k := 5) rfl e51.symm (by decide) rfl (fun ls hl => ?_)
            refine lv_goto hx hb d_cVectorCache_find_54 (tgt := 3) (by decide) ?_
            exact ih3 a51 H locs ls  hX hS (lv_sub hl [2, 3, 4, 5, 0] rfl) h
          · rw [if_pos hc] at h
            refine lv_aload hx hb d_cVectorCache_find_39 (lv_at hl 0 rfl) ?_
            refine c_get_22_2N (k := a18) hx hb hts hown hC hX hka18 (va_Nw.use rfl (hC.2.1 _ t_267)) d_cVectorCache_find_41 ?_
            refine lv_iload_n hx hb d_cVectorCache_find_44 rfl (lv_at hl 4 rfl) ?_
            refine lv_icmp_ne hx hb d_cVectorCache_find_45 (tgt := 51) (by decide) (fun hc => ?_) (fun hc => ?_)
            · rw [if_neg hc] at h
              obtain ⟨a51, e51, h⟩ := bd_some h
              refine lv_iinc (v := a51) (lv' := [(4, .int a51), (5, .ref (b + a18)), (0, .ref (b + 244)), (1, .int x1), (2, .int x2), (3, .int x3)]) hx hb d_cVectorCache_find_51 hl (k := 5) rfl e51.symm (by decide) rfl (fun ls hl => ?_)
              refine lv_goto hx hb d_cVectorCache_find_54 (tgt := 3) (by decide) ?_
              exact ih3 a51 H locs ls  hX hS (lv_sub hl [2, 3, 4, 5, 0] rfl) h
            · rw [if_pos hc] at h
              refine lv_iload hx hb d_cVectorCache_find_48 (lv_at hl 5 rfl) ?_
              obtain rfl := Option.some.inj h
              exact rt_i hQ hx hb hr hX hS hlk d_cVectorCache_find_50
  exact L3 600 0 H locs ls  hX hS (lv_sub hl [1, 2, 3, 4, 0] rfl) h
abbrev y_cVectorCache_freePlace : MethodName := ({ cls := "TypeGuard$VectorCache", name := "freePlace", desc := "()I" } : Jvm.MethodName)
theorem d_cVectorCache_freePlace_0 : decode prog_11_method_5_code 0 = .ok (.aload_n 0, 1) := by decide +kernel
theorem d_cVectorCache_freePlace_1 : decode prog_11_method_5_code 1 = .ok (.getfield 51, 3) := by decide +kernel
theorem d_cVectorCache_freePlace_4 : decode prog_11_method_5_code 4 = .ok (.bipush 6, 2) := by decide +kernel
theorem d_cVectorCache_freePlace_6 : decode prog_11_method_5_code 6 = .ok (.if_icmp .ge 20, 3) := by decide +kernel
theorem d_cVectorCache_freePlace_9 : decode prog_11_method_5_code 9 = .ok (.aload_n 0, 1) := by decide +kernel
theorem d_cVectorCache_freePlace_10 : decode prog_11_method_5_code 10 = .ok (.dup, 1) := by decide +kernel
theorem d_cVectorCache_freePlace_11 : decode prog_11_method_5_code 11 = .ok (.getfield 51, 3) := by decide +kernel
theorem d_cVectorCache_freePlace_14 : decode prog_11_method_5_code 14 = .ok (.iconst 1, 1) := by decide +kernel
theorem d_cVectorCache_freePlace_15 : decode prog_11_method_5_code 15 = .ok (.iadd, 1) := by decide +kernel
theorem d_cVectorCache_freePlace_16 : decode prog_11_method_5_code 16 = .ok (.putfield 51, 3) := by decide +kernel
theorem d_cVectorCache_freePlace_19 : decode prog_11_method_5_code 19 = .ok (.aload_n 0, 1) := by decide +kernel
theorem d_cVectorCache_freePlace_20 : decode prog_11_method_5_code 20 = .ok (.getfield 51, 3) := by decide +kernel
theorem d_cVectorCache_freePlace_23 : decode prog_11_method_5_code 23 = .ok (.iconst 1, 1) := by decide +kernel
theorem d_cVectorCache_freePlace_24 : decode prog_11_method_5_code 24 = .ok (.isub, 1) := by decide +kernel
theorem d_cVectorCache_freePlace_25 : decode prog_11_method_5_code 25 = .ok (.ireturn, 1) := by decide +kernel
theorem d_cVectorCache_freePlace_26 : decode prog_11_method_5_code 26 = .ok (.iconst 0, 1) := by decide +kernel
theorem d_cVectorCache_freePlace_27 : decode prog_11_method_5_code 27 = .ok (.istore_n 1, 1) := by decide +kernel
theorem d_cVectorCache_freePlace_28 : decode prog_11_method_5_code 28 = .ok (.iconst 1, 1) := by decide +kernel
theorem d_cVectorCache_freePlace_29 : decode prog_11_method_5_code 29 = .ok (.istore_n 2, 1) := by decide +kernel
theorem d_cVectorCache_freePlace_30 : decode prog_11_method_5_code 30 = .ok (.iload_n 2, 1) := by decide +kernel
theorem d_cVectorCache_freePlace_31 : decode prog_11_method_5_code 31 = .ok (.bipush 6, 2) := by decide +kernel
theorem d_cVectorCache_freePlace_33 : decode prog_11_method_5_code 33 = .ok (.if_icmp .ge 32, 3) := by decide +kernel
theorem d_cVectorCache_freePlace_36 : decode prog_11_method_5_code 36 = .ok (.aload_n 0, 1) := by decide +kernel
theorem d_cVectorCache_freePlace_37 : decode prog_11_method_5_code 37 = .ok (.getfield 11, 3) := by decide +kernel
theorem d_cVectorCache_freePlace_40 : decode prog_11_method_5_code 40 = .ok (.iload_n 2, 1) := by decide +kernel
theorem d_cVectorCache_freePlace_41 : decode prog_11_method_5_code 41 = .ok (.aaload, 1) := by decide +kernel
theorem d_cVectorCache_freePlace_42 : decode prog_11_method_5_code 42 = .ok (.getfield 48, 3) := by decide +kernel
theorem d_cVectorCache_freePlace_45 : decode prog_11_method_5_code 45 = .ok (.aload_n 0, 1) := by decide +kernel
theorem d_cVectorCache_freePlace_46 : decode prog_11_method_5_code 46 = .ok (.getfield 11, 3) := by decide +kernel
theorem d_cVectorCache_freePlace_49 : decode prog_11_method_5_code 49 = .ok (.iload_n 1, 1) := by decide +kernel
theorem d_cVectorCache_freePlace_50 : decode prog_11_method_5_code 50 = .ok (.aaload, 1) := by decide +kernel
theorem d_cVectorCache_freePlace_51 : decode prog_11_method_5_code 51 = .ok (.getfield 48, 3) := by decide +kernel
theorem d_cVectorCache_freePlace_54 : decode prog_11_method_5_code 54 = .ok (.if_icmp .ge 5, 3) := by decide +kernel
theorem d_cVectorCache_freePlace_57 : decode prog_11_method_5_code 57 = .ok (.iload_n 2, 1) := by decide +kernel
theorem d_cVectorCache_freePlace_58 : decode prog_11_method_5_code 58 = .ok (.istore_n 1, 1) := by decide +kernel
theorem d_cVectorCache_freePlace_59 : decode prog_11_method_5_code 59 = .ok (.iinc 2 1, 3) := by decide +kernel
theorem d_cVectorCache_freePlace_62 : decode prog_11_method_5_code 62 = .ok (.goto (-32), 3) := by decide +kernel
theorem d_cVectorCache_freePlace_65 : decode prog_11_method_5_code 65 = .ok (.iload_n 1, 1) := by decide +kernel
theorem d_cVectorCache_freePlace_66 : decode prog_11_method_5_code 66 = .ok (.ireturn, 1) := by decide +kernel
def cVectorCache_freePlace_L30 (S_30 : CS) : Nat → Int32 → Int32 → Option (CS × Int32)
  | 0, _, _ => none
  | n + 1, v1_30, v2_30 => (if 6 ≤ v2_30 then some (S_30, v1_30) else (if inbd v2_30 6 = true then (bd ((245 + (1 + txN v2_30))) fun a41 => (if inbd v1_30 6 = true then (bd ((245 + (1 + txN v1_30))) fun a50 => (if (gI S_30 a50 4) ≤ (gI S_30 a41 4) then (bd ((v2_30 + 1)) fun a59 => (cVectorCache_freePlace_L30 S_30 n) v1_30 a59) else (bd ((v2_30 + 1)) fun a59 => (cVectorCache_freePlace_L30 S_30 n) v2_30 a59))) else none)) else none))
def cVectorCache_freePlace (S : CS) : Option (CS × Int32) := (if 6 ≤ (gI S 244 1) then cVectorCache_freePlace_L30 S 600 0 1 else (bd (pI S 244 1 ((gI S 244 1) + 1)) fun S16 => some (S16, ((gI S16 244 1) - 1))))
set_option maxHeartbeats 4000000 in
set_option maxRecDepth 100000 in
theorem M_cVectorCache_freePlace {l : Launch} {D : va_G} {cA : Nat → ClassId} {b : Nat} {ad : Nat → Nat}  {S : CS} {T : MS × (Nat → Int64)} {rr : (CS × Int32)}  (h : cVectorCache_freePlace  S = some rr) : Met l y_cVectorCache_freePlace (Cond.code y_cVectorCache_freePlace prog_11_method_5_code 3 (Option.some Jvm.ClassFile.FieldType.int) :: TW) { frames := 0, cells := 0, slots := 0, locals := 0 } (va_Pc [.ref (b + 244)] (Rp D cA b ad (S, T))) (Qr D cA b ad (rr.1, T) (some (.int rr.2))) 0 0 (Ab b) := by
  refine Ct_of (by decide) (Nat.le_of_ble_eq_true rfl) ?_
  intro p e R s m args below meth c ls Q H locs hR hQ hx hb hts hown hml hr hlk hC hX hS hl
  have hRf : R.frames = 0 := by rw [hR]
  have hRl : R.locals = 0 := by rw [hR]
  have hown : s.vm.findClass "TypeGuard$VectorCache" = some m.cls := hown
  have hl : lv_has ls 3 [(0, .ref (b + 244))] := hl
  rw [cVectorCache_freePlace] at h
  refine lv_aload_n hx hb d_cVectorCache_freePlace_0 rfl (lv_at hl 0 rfl) ?_
  refine c_get_20_1 hx hb hts hown hC hX (by rfl) (hts _ t_294) d_cVectorCache_freePlace_1 ?_
  refine lv_bipush (v := 6) hx hb d_cVectorCache_freePlace_4 (by decide) ?_
  refine lv_icmp_ge hx hb d_cVectorCache_freePlace_6 (tgt := 26) (by decide) (fun hc => ?_) (fun hc => ?_)
  · rw [if_pos hc] at h
    refine lv_iconst (v := 0) hx hb d_cVectorCache_freePlace_26 (by decide) ?_
    refine lv_istore_n (lv' := [(1, .int 0), (0, .ref (b + 244))]) hx hb d_cVectorCache_freePlace_27 rfl hl (by decide) rfl (fun ls hl => ?_)
    refine lv_iconst (v := 1) hx hb d_cVectorCache_freePlace_28 (by decide) ?_
    refine lv_istore_n (lv' := [(2, .int 1), (1, .int 0), (0, .ref (b + 244))]) hx hb d_cVectorCache_freePlace_29 rfl hl (by decide) rfl (fun ls hl => ?_)
    have L30 : ∀ (n30 : Nat) (v1_30 : Int32) (v2_30 : Int32) (H : Heap) (locs : List Loc) (ls : Array Slot), hp D cA b ad (S, T) H → va_S (Ab b) s.heap H locs → lv_has ls 3 [(0, .ref (b + 244)), (1, .int v1_30), (2, .int v2_30)] → cVectorCache_freePlace_L30 S n30 v1_30 v2_30 = some rr → W p l e R s m args below meth c H locs 0 0 Q (F0 m 30 ls []) := by
      intro n30; induction n30 with
      | zero => intro v1_30 v2_30 H locs ls  hX hS hl h; rw [cVectorCache_freePlace_L30] at h; cases h
      | succ n30 ih30 =>
        intro v1_30 v2_30 H locs ls  hX hS hl h
        rw [cVectorCache_freePlace_L30] at h
        refine lv_iload_n hx hb d_cVectorCache_freePlace_30 rfl (lv_at hl 2 rfl) ?_
        refine lv_bipush (v := 6) hx hb d_cVectorCache_freePlace_31 (by decide) ?_
        refine lv_icmp_ge hx hb d_cVectorCache_freePlace_33 (tgt := 65) (by decide) (fun hc => ?_) (fun hc => ?_)
        · rw [if_pos hc] at h
          refine lv_iload_n hx hb d_cVectorCache_freePlace_65 rfl (lv_at hl 1 rfl) ?_
          obtain rfl := Option.some.inj h
          exact rt_i hQ hx hb hr hX hS hlk d_cVectorCache_freePlace_66
        · rw [if_neg hc] at h
          refine lv_aload_n hx hb d_cVectorCache_freePlace_36 rfl (lv_at hl 0 rfl) ?_
          refine c_get_20_0 hx hb hts hown hC hX (by rfl) (hts _ t_293) d_cVectorCache_freePlace_37 ?_
          refine lv_iload_n hx hb d_cVectorCache_freePlace_40 rfl (lv_at hl 2 rfl) ?_
          by_cases hg41 : inbd v2_30 6 = true
          rotate_left; · rw [if_neg hg41] at h; cases h
          rw [if_pos hg41] at h
          refine c_ald_21 (k := 245) hx hb hC hX (by rfl) hg41 d_cVectorCache_freePlace_41 ?_
          obtain ⟨a41, e41, h⟩ := bd_some h
          refine lt_R e41 ?_
          have hka41 := (ke_21 (k := 245) (by rfl) (inbd_lt hg41))
          rw [← e41] at hka41
          refine c_get_22_4N (k := a41) hx hb hts hown hC hX hka41 (va_Nw.use rfl (hC.2.1 _ t_272)) d_cVectorCache_freePlace_42 ?_
          refine lv_aload_n hx hb d_cVectorCache_freePlace_45 rfl (lv_at hl 0 rfl) ?_
          refine c_get_20_0 hx hb hts hown hC hX (by rfl) (hts _ t_293) d_cVectorCache_freePlace_46 ?_
          refine lv_iload_n hx hb d_cVectorCache_freePlace_49 rfl (lv_at hl 1 rfl) ?_
          by_cases hg50 : inbd v1_30 6 = true
          rotate_left; · rw [if_neg hg50] at h; cases h
          rw [if_pos hg50] at h
          refine c_ald_21 (k := 245) hx hb hC hX (by rfl) hg50 d_cVectorCache_freePlace_50 ?_
          obtain ⟨a50, e50, h⟩ := bd_some h
          refine lt_R e50 ?_
          have hka50 := (ke_21 (k := 245) (by rfl) (inbd_lt hg50))
          rw [← e50] at hka50
          refine c_get_22_4N (k := a50) hx hb hts hown hC hX hka50 (va_Nw.use rfl (hC.2.1 _ t_272)) d_cVectorCache_freePlace_51 ?_
          refine lv_icmp_ge hx hb d_cVectorCache_freePlace_54 (tgt := 59) (by decide) (fun hc => ?_) (fun hc => ?_)
          · rw [if_pos hc] at h
            obtain ⟨a59, e59, h⟩ := bd_some h
            refine lv_iinc (v := a59) (lv' := [(2, .int a59), (0, .ref (b + 244)), (1, .int v1_30)]) hx hb d_cVectorCache_freePlace_59 hl (k := 2) rfl e59.symm (by decide) rfl (fun ls hl => ?_)
            refine lv_goto hx hb d_cVectorCache_freePlace_62 (tgt := 30) (by decide) ?_
            exact ih30 v1_30 a59 H locs ls  hX hS (lv_sub hl [1, 2, 0] rfl) h
          · rw [if_neg hc] at h
            refine lv_iload_n hx hb d_cVectorCache_freePlace_57 rfl (lv_at hl 2 rfl) ?_
            refine lv_istore_n (lv' := [(1, .int v2_30), (0, .ref (b + 244)), (2, .int v2_30)]) hx hb d_cVectorCache_freePlace_58 rfl hl (by decide) rfl (fun ls hl => ?_)
            obtain ⟨a59, e59, h⟩ := bd_some h
            refine lv_iinc (v := a59) (lv' := [(2, .int a59), (1, .int v2_30), (0, .ref (b + 244))]) hx hb d_cVectorCache_freePlace_59 hl (k := 2) rfl e59.symm (by decide) rfl (fun ls hl => ?_)
            refine lv_goto hx hb d_cVectorCache_freePlace_62 (tgt := 30) (by decide) ?_
            exact ih30 v2_30 a59 H locs ls  hX hS (lv_sub hl [2, 1, 0] rfl) h
    exact L30 600 0 1 H locs ls  hX hS (lv_sub hl [2, 1, 0] rfl) h
  · rw [if_neg hc] at h
    refine lv_aload_n hx hb d_cVectorCache_freePlace_9 rfl (lv_at hl 0 rfl) ?_
    refine lv_dup hx hb d_cVectorCache_freePlace_10 rfl ?_
    refine c_get_20_1 hx hb hts hown hC hX (by rfl) (hts _ t_294) d_cVectorCache_freePlace_11 ?_
    refine lv_iconst (v := 1) hx hb d_cVectorCache_freePlace_14 (by decide) ?_
    refine lv_iadd hx hb d_cVectorCache_freePlace_15 ?_
    refine c_put_20_1 (v := ((gI S 244 1) + 1)) hx hb hts hown hC hX hS (by rfl) (hts _ t_294) d_cVectorCache_freePlace_16 (fun H locs hX hS => ?_)
    obtain ⟨S16, e16, h⟩ := bd_some h
    rw [← e16] at hX
    refine lv_aload_n hx hb d_cVectorCache_freePlace_19 rfl (lv_at hl 0 rfl) ?_
    refine c_get_20_1 hx hb hts hown hC hX (by rfl) (hts _ t_294) d_cVectorCache_freePlace_20 ?_
    refine lv_iconst (v := 1) hx hb d_cVectorCache_freePlace_23 (by decide) ?_
    refine lv_isub hx hb d_cVectorCache_freePlace_24 ?_
    obtain rfl := Option.some.inj h
    exact rt_i hQ hx hb hr hX hS hlk d_cVectorCache_freePlace_25
abbrev y_cVectorCache_entryFor : MethodName := ({ cls := "TypeGuard$VectorCache", name := "entryFor", desc := "(IIII)LTypeGuard$Entry;" } : Jvm.MethodName)
theorem d_cVectorCache_entryFor_0 : decode prog_11_method_2_code 0 = .ok (.aload_n 0, 1) := by decide +kernel
theorem d_cVectorCache_entryFor_1 : decode prog_11_method_2_code 1 = .ok (.iload_n 1, 1) := by decide +kernel
theorem d_cVectorCache_entryFor_2 : decode prog_11_method_2_code 2 = .ok (.iload_n 2, 1) := by decide +kernel
theorem d_cVectorCache_entryFor_3 : decode prog_11_method_2_code 3 = .ok (.iload_n 3, 1) := by decide +kernel
theorem d_cVectorCache_entryFor_4 : decode prog_11_method_2_code 4 = .ok (.invokevirtual 18, 3) := by decide +kernel
theorem d_cVectorCache_entryFor_7 : decode prog_11_method_2_code 7 = .ok (.istore 5, 2) := by decide +kernel
theorem d_cVectorCache_entryFor_9 : decode prog_11_method_2_code 9 = .ok (.iload 5, 2) := by decide +kernel
theorem d_cVectorCache_entryFor_11 : decode prog_11_method_2_code 11 = .ok (.iconst (-1), 1) := by decide +kernel
theorem d_cVectorCache_entryFor_12 : decode prog_11_method_2_code 12 = .ok (.if_icmp .ne 53, 3) := by decide +kernel
theorem d_cVectorCache_entryFor_15 : decode prog_11_method_2_code 15 = .ok (.aload_n 0, 1) := by decide +kernel
theorem d_cVectorCache_entryFor_16 : decode prog_11_method_2_code 16 = .ok (.invokevirtual 22, 3) := by decide +kernel
theorem d_cVectorCache_entryFor_19 : decode prog_11_method_2_code 19 = .ok (.istore 5, 2) := by decide +kernel
theorem d_cVectorCache_entryFor_21 : decode prog_11_method_2_code 21 = .ok (.aload_n 0, 1) := by decide +kernel
theorem d_cVectorCache_entryFor_22 : decode prog_11_method_2_code 22 = .ok (.getfield 11, 3) := by decide +kernel
theorem d_cVectorCache_entryFor_25 : decode prog_11_method_2_code 25 = .ok (.iload 5, 2) := by decide +kernel
theorem d_cVectorCache_entryFor_27 : decode prog_11_method_2_code 27 = .ok (.aaload, 1) := by decide +kernel
theorem d_cVectorCache_entryFor_28 : decode prog_11_method_2_code 28 = .ok (.iload_n 1, 1) := by decide +kernel
theorem d_cVectorCache_entryFor_29 : decode prog_11_method_2_code 29 = .ok (.putfield 26, 3) := by decide +kernel
theorem d_cVectorCache_entryFor_32 : decode prog_11_method_2_code 32 = .ok (.aload_n 0, 1) := by decide +kernel
theorem d_cVectorCache_entryFor_33 : decode prog_11_method_2_code 33 = .ok (.getfield 11, 3) := by decide +kernel
theorem d_cVectorCache_entryFor_36 : decode prog_11_method_2_code 36 = .ok (.iload 5, 2) := by decide +kernel
theorem d_cVectorCache_entryFor_38 : decode prog_11_method_2_code 38 = .ok (.aaload, 1) := by decide +kernel
theorem d_cVectorCache_entryFor_39 : decode prog_11_method_2_code 39 = .ok (.iload_n 2, 1) := by decide +kernel
theorem d_cVectorCache_entryFor_40 : decode prog_11_method_2_code 40 = .ok (.putfield 30, 3) := by decide +kernel
theorem d_cVectorCache_entryFor_43 : decode prog_11_method_2_code 43 = .ok (.aload_n 0, 1) := by decide +kernel
theorem d_cVectorCache_entryFor_44 : decode prog_11_method_2_code 44 = .ok (.getfield 11, 3) := by decide +kernel
theorem d_cVectorCache_entryFor_47 : decode prog_11_method_2_code 47 = .ok (.iload 5, 2) := by decide +kernel
theorem d_cVectorCache_entryFor_49 : decode prog_11_method_2_code 49 = .ok (.aaload, 1) := by decide +kernel
theorem d_cVectorCache_entryFor_50 : decode prog_11_method_2_code 50 = .ok (.iload_n 3, 1) := by decide +kernel
theorem d_cVectorCache_entryFor_51 : decode prog_11_method_2_code 51 = .ok (.putfield 33, 3) := by decide +kernel
theorem d_cVectorCache_entryFor_54 : decode prog_11_method_2_code 54 = .ok (.aload_n 0, 1) := by decide +kernel
theorem d_cVectorCache_entryFor_55 : decode prog_11_method_2_code 55 = .ok (.getfield 11, 3) := by decide +kernel
theorem d_cVectorCache_entryFor_58 : decode prog_11_method_2_code 58 = .ok (.iload 5, 2) := by decide +kernel
theorem d_cVectorCache_entryFor_60 : decode prog_11_method_2_code 60 = .ok (.aaload, 1) := by decide +kernel
theorem d_cVectorCache_entryFor_61 : decode prog_11_method_2_code 61 = .ok (.iconst (-1), 1) := by decide +kernel
theorem d_cVectorCache_entryFor_62 : decode prog_11_method_2_code 62 = .ok (.putfield 36, 3) := by decide +kernel
theorem d_cVectorCache_entryFor_65 : decode prog_11_method_2_code 65 = .ok (.aload_n 0, 1) := by decide +kernel
theorem d_cVectorCache_entryFor_66 : decode prog_11_method_2_code 66 = .ok (.getfield 11, 3) := by decide +kernel
theorem d_cVectorCache_entryFor_69 : decode prog_11_method_2_code 69 = .ok (.iload 5, 2) := by decide +kernel
theorem d_cVectorCache_entryFor_71 : decode prog_11_method_2_code 71 = .ok (.aaload, 1) := by decide +kernel
theorem d_cVectorCache_entryFor_72 : decode prog_11_method_2_code 72 = .ok (.getfield 36, 3) := by decide +kernel
theorem d_cVectorCache_entryFor_75 : decode prog_11_method_2_code 75 = .ok (.iload 4, 2) := by decide +kernel
theorem d_cVectorCache_entryFor_77 : decode prog_11_method_2_code 77 = .ok (.if_icmp .ne 16, 3) := by decide +kernel
theorem d_cVectorCache_entryFor_80 : decode prog_11_method_2_code 80 = .ok (.aload_n 0, 1) := by decide +kernel
theorem d_cVectorCache_entryFor_81 : decode prog_11_method_2_code 81 = .ok (.dup, 1) := by decide +kernel
theorem d_cVectorCache_entryFor_82 : decode prog_11_method_2_code 82 = .ok (.getfield 39, 3) := by decide +kernel
theorem d_cVectorCache_entryFor_85 : decode prog_11_method_2_code 85 = .ok (.iconst 1, 1) := by decide +kernel
theorem d_cVectorCache_entryFor_86 : decode prog_11_method_2_code 86 = .ok (.iadd, 1) := by decide +kernel
theorem d_cVectorCache_entryFor_87 : decode prog_11_method_2_code 87 = .ok (.putfield 39, 3) := by decide +kernel
theorem d_cVectorCache_entryFor_90 : decode prog_11_method_2_code 90 = .ok (.goto 13, 3) := by decide +kernel
theorem d_cVectorCache_entryFor_93 : decode prog_11_method_2_code 93 = .ok (.aload_n 0, 1) := by decide +kernel
theorem d_cVectorCache_entryFor_94 : decode prog_11_method_2_code 94 = .ok (.dup, 1) := by decide +kernel
theorem d_cVectorCache_entryFor_95 : decode prog_11_method_2_code 95 = .ok (.getfield 42, 3) := by decide +kernel
theorem d_cVectorCache_entryFor_98 : decode prog_11_method_2_code 98 = .ok (.iconst 1, 1) := by decide +kernel
theorem d_cVectorCache_entryFor_99 : decode prog_11_method_2_code 99 = .ok (.iadd, 1) := by decide +kernel
theorem d_cVectorCache_entryFor_100 : decode prog_11_method_2_code 100 = .ok (.putfield 42, 3) := by decide +kernel
theorem d_cVectorCache_entryFor_103 : decode prog_11_method_2_code 103 = .ok (.aload_n 0, 1) := by decide +kernel
theorem d_cVectorCache_entryFor_104 : decode prog_11_method_2_code 104 = .ok (.dup, 1) := by decide +kernel
theorem d_cVectorCache_entryFor_105 : decode prog_11_method_2_code 105 = .ok (.getfield 45, 3) := by decide +kernel
theorem d_cVectorCache_entryFor_108 : decode prog_11_method_2_code 108 = .ok (.iconst 1, 1) := by decide +kernel
theorem d_cVectorCache_entryFor_109 : decode prog_11_method_2_code 109 = .ok (.iadd, 1) := by decide +kernel
theorem d_cVectorCache_entryFor_110 : decode prog_11_method_2_code 110 = .ok (.putfield 45, 3) := by decide +kernel
theorem d_cVectorCache_entryFor_113 : decode prog_11_method_2_code 113 = .ok (.aload_n 0, 1) := by decide +kernel
theorem d_cVectorCache_entryFor_114 : decode prog_11_method_2_code 114 = .ok (.getfield 11, 3) := by decide +kernel
theorem d_cVectorCache_entryFor_117 : decode prog_11_method_2_code 117 = .ok (.iload 5, 2) := by decide +kernel
theorem d_cVectorCache_entryFor_119 : decode prog_11_method_2_code 119 = .ok (.aaload, 1) := by decide +kernel
theorem d_cVectorCache_entryFor_120 : decode prog_11_method_2_code 120 = .ok (.aload_n 0, 1) := by decide +kernel
theorem d_cVectorCache_entryFor_121 : decode prog_11_method_2_code 121 = .ok (.getfield 45, 3) := by decide +kernel
theorem d_cVectorCache_entryFor_124 : decode prog_11_method_2_code 124 = .ok (.putfield 48, 3) := by decide +kernel
theorem d_cVectorCache_entryFor_127 : decode prog_11_method_2_code 127 = .ok (.aload_n 0, 1) := by decide +kernel
theorem d_cVectorCache_entryFor_128 : decode prog_11_method_2_code 128 = .ok (.getfield 11, 3) := by decide +kernel
theorem d_cVectorCache_entryFor_131 : decode prog_11_method_2_code 131 = .ok (.iload 5, 2) := by decide +kernel
theorem d_cVectorCache_entryFor_133 : decode prog_11_method_2_code 133 = .ok (.aaload, 1) := by decide +kernel
theorem d_cVectorCache_entryFor_134 : decode prog_11_method_2_code 134 = .ok (.areturn, 1) := by decide +kernel
def cVectorCache_entryFor_J103 (v5_103 : Int32) (S_103 : CS) : Option (CS × Nat) := (bd (pI S_103 244 2 ((gI S_103 244 2) + 1)) fun S110 => (if inbd v5_103 6 = true then (bd ((245 + (1 + txN v5_103))) fun a119 => (bd (pI S110 a119 4 (gI S110 244 2)) fun S124 => (if inbd v5_103 6 = true then (bd ((245 + (1 + txN v5_103))) fun a133 => some (S124, a133)) else none))) else none))
def cVectorCache_entryFor_J65 (v4_65 : Int32) (v5_65 : Int32) (S_65 : CS) : Option (CS × Nat) := (if inbd v5_65 6 = true then (bd ((245 + (1 + txN v5_65))) fun a71 => (if (gI S_65 a71 3) = v4_65 then (bd (pI S_65 244 3 ((gI S_65 244 3) + 1)) fun S87 => cVectorCache_entryFor_J103 v5_65 S87) else (bd (pI S_65 244 4 ((gI S_65 244 4) + 1)) fun S100 => cVectorCache_entryFor_J103 v5_65 S100))) else none)
def cVectorCache_entryFor (x1 : Int32) (x2 : Int32) (x3 : Int32) (x4 : Int32) (S : CS) : Option (CS × Nat) := ((cVectorCache_find x1 x2 x3 S).bind fun q4 => (if q4 = (-1) then ((cVectorCache_freePlace S).bind fun q16 => (if inbd q16.2 6 = true then (bd ((245 + (1 + txN q16.2))) fun a27 => (bd (pI q16.1 a27 0 x1) fun S29 => (if inbd q16.2 6 = true then (bd ((245 + (1 + txN q16.2))) fun a38 => (bd (pI S29 a38 1 x2) fun S40 => (if inbd q16.2 6 = true then (bd ((245 + (1 + txN q16.2))) fun a49 => (bd (pI S40 a49 2 x3) fun S51 => (if inbd q16.2 6 = true then (bd ((245 + (1 + txN q16.2))) fun a60 => (bd (pI S51 a60 3 (-1)) fun S62 => cVectorCache_entryFor_J65 x4 q16.2 S62)) else none))) else none))) else none))) else none)) else cVectorCache_entryFor_J65 x4 q4 S))
set_option maxHeartbeats 4000000 in
set_option maxRecDepth 100000 in
theorem M_cVectorCache_entryFor {l : Launch} {D : va_G} {cA : Nat → ClassId} {b : Nat} {ad : Nat → Nat} {x1 : Int32} {x2 : Int32} {x3 : Int32} {x4 : Int32} {S : CS} {T : MS × (Nat → Int64)} {rr : (CS × Nat)}  (h : cVectorCache_entryFor x1 x2 x3 x4 S = some rr) : Met l y_cVectorCache_entryFor (Cond.code y_cVectorCache_entryFor prog_11_method_2_code 6 (Option.some (Jvm.ClassFile.FieldType.object "TypeGuard$Entry")) :: TW) { frames := 1, cells := 0, slots := 0, locals := 25 } (va_Pc [.ref (b + 244), .int x1, .int x2, .int x3, .int x4] (Rp D cA b ad (S, T))) (Qr D cA b ad (rr.1, T) (some (.ref (b + rr.2)))) 0 0 (Ab b) := by
  refine Ct_of (by decide) (Nat.le_of_ble_eq_true rfl) ?_
  intro p e R s m args below meth c ls Q H locs hR hQ hx hb hts hown hml hr hlk hC hX hS hl
  have hRf : R.frames = 1 := by rw [hR]
  have hRl : R.locals = 25 := by rw [hR]
  have hown : s.vm.findClass "TypeGuard$VectorCache" = some m.cls := hown
  have hl : lv_has ls 6 [(0, .ref (b + 244)), (1, .int x1), (2, .int x2), (3, .int x3), (4, .int x4)] := hl
  rw [cVectorCache_entryFor] at h
  refine lv_aload_n hx hb d_cVectorCache_entryFor_0 rfl (lv_at hl 0 rfl) ?_
  refine lv_iload_n hx hb d_cVectorCache_entryFor_1 rfl (lv_at hl 1 rfl) ?_
  refine lv_iload_n hx hb d_cVectorCache_entryFor_2 rfl (lv_at hl 2 rfl) ?_
  refine lv_iload_n hx hb d_cVectorCache_entryFor_3 rfl (lv_at hl 3 rfl) ?_
  obtain ⟨q4, hc4, h⟩ := Option.bind_eq_some_iff.mp h
  refine ck_V (As := [.int x1, .int x2, .int x3]) (rest := []) (st1 := [.int q4]) (M_cVectorCache_find  hc4) t_930 t_932 p_35 t_933 t_10 hx hb hts hown hC hX hS (hrc_c20 hC hX (by rfl)) hml hl.1 ⟨by rw [hRf]; decide, by rw [hRl]; decide⟩ ⟨rfl, rfl⟩ (n := 3) (by decide +kernel) rfl rfl rfl (lv_room (Nat.le_of_ble_eq_true rfl)) d_cVectorCache_entryFor_4 (fun H locs hX hS => ?_)
  refine lv_istore (lv' := [(5, .int q4), (0, .ref (b + 244)), (1, .int x1), (2, .int x2), (3, .int x3), (4, .int x4)]) hx hb d_cVectorCache_entryFor_7 hl (by decide) rfl (fun ls hl => ?_)
  refine lv_iload hx hb d_cVectorCache_entryFor_9 (lv_at hl 0 rfl) ?_
  refine lv_iconst (v := (-1)) hx hb d_cVectorCache_entryFor_11 (by decide) ?_
  have J65 : ∀ (v5_65 : Int32) (S_65 : CS) (H : Heap) (locs : List Loc) (ls : Array Slot), hp D cA b ad (S_65, T) H → va_S (Ab b) s.heap H locs → lv_has ls 6 [(0, .ref (b + 244)), (4, .int x4), (5, .int v5_65)] → cVectorCache_entryFor_J65 x4 v5_65 S_65 = some rr → W p l e R s m args below meth c H locs 0 0 Q (F0 m 65 ls []) := by
    intro v5_65 S_65 H locs ls  hX hS hl h
    rw [cVectorCache_entryFor_J65] at h
    refine lv_aload_n hx hb d_cVectorCache_entryFor_65 rfl (lv_at hl 0 rfl) ?_
    refine c_get_20_0 hx hb hts hown hC hX (by rfl) (hts _ t_293) d_cVectorCache_entryFor_66 ?_
    refine lv_iload hx hb d_cVectorCache_entryFor_69 (lv_at hl 2 rfl) ?_
    by_cases hg71 : inbd v5_65 6 = true
    rotate_left; · rw [if_neg hg71] at h; cases h
    rw [if_pos hg71] at h
    refine c_ald_21 (k := 245) hx hb hC hX (by rfl) hg71 d_cVectorCache_entryFor_71 ?_
    obtain ⟨a71, e71, h⟩ := bd_some h
    refine lt_R e71 ?_
    have hka71 := (ke_21 (k := 245) (by rfl) (inbd_lt hg71))
    rw [← e71] at hka71
    refine c_get_22_3N (k := a71) hx hb hts hown hC hX hka71 (va_Nw.use rfl (hC.2.1 _ t_270)) d_cVectorCache_entryFor_72 ?_
    refine lv_iload hx hb d_cVectorCache_entryFor_75 (lv_at hl 1 rfl) ?_
    have J103 : ∀ (S_103 : CS) (H : Heap) (locs : List Loc) (ls : Array Slot), hp D cA b ad (S_103, T) H → va_S (Ab b) s.heap H locs → lv_has ls 6 [(0, .ref (b + 244)), (5, .int v5_65)] → cVectorCache_entryFor_J103 v5_65 S_103 = some rr → W p l e R s m args below meth c H locs 0 0 Q (F0 m 103 ls []) := by
      intro S_103 H locs ls  hX hS hl h
      rw [cVectorCache_entryFor_J103] at h
      refine lv_aload_n hx hb d_cVectorCache_entryFor_103 rfl (lv_at hl 0 rfl) ?_
      refine lv_dup hx hb d_cVectorCache_entryFor_104 rfl ?_
      refine c_get_20_2 hx hb hts hown hC hX (by rfl) (hts _ t_296) d_cVectorCache_entryFor_105 ?_
      refine lv_iconst (v := 1) hx hb d_cVectorCache_entryFor_108 (by decide) ?_
      refine lv_iadd hx hb d_cVectorCache_entryFor_109 ?_
      refine c_put_20_2 (v := ((gI S_103 244 2) + 1)) hx hb hts hown hC hX hS (by rfl) (hts _ t_296) d_cVectorCache_entryFor_110 (fun H locs hX hS => ?_)
      obtain ⟨S110, e110, h⟩ := bd_some h
      rw [← e110] at hX
      refine lv_aload_n hx hb d_cVectorCache_entryFor_113 rfl (lv_at hl 0 rfl) ?_
      refine c_get_20_0 hx hb hts hown hC hX (by rfl) (hts _ t_293) d_cVectorCache_entryFor_114 ?_
      refine lv_iload hx hb d_cVectorCache_entryFor_117 (lv_at hl 1 rfl) ?_
      by_cases hg119 : inbd v5_65 6 = true
      rotate_left; · rw [if_neg hg119] at h; cases h
      rw [if_pos hg119] at h
      refine c_ald_21 (k := 245) hx hb hC hX (by rfl) hg119 d_cVectorCache_entryFor_119 ?_
      obtain ⟨a119, e119, h⟩ := bd_some h
      refine lt_R e119 ?_
      have hka119 := (ke_21 (k := 245) (by rfl) (inbd_lt hg119))
      rw [← e119] at hka119
      refine lv_aload_n hx hb d_cVectorCache_entryFor_120 rfl (lv_at hl 0 rfl) ?_
      refine c_get_20_2 hx hb hts hown hC hX (by rfl) (hts _ t_296) d_cVectorCache_entryFor_121 ?_
      refine c_put_22_4N (k := a119) (v := (gI S110 244 2)) hx hb hts hown hC hX hS hka119 (va_Nw.use rfl (hC.2.1 _ t_272)) d_cVectorCache_entryFor_124 (fun H locs hX hS => ?_)
      obtain ⟨S124, e124, h⟩ := bd_some h
      rw [← e124] at hX
      refine lv_aload_n hx hb d_cVectorCache_entryFor_127 rfl (lv_at hl 0 rfl) ?_
      refine c_get_20_0 hx hb hts hown hC hX (by rfl) (hts _ t_293) d_cVectorCache_entryFor_128 ?_
      refine lv_iload hx hb d_cVectorCache_entryFor_131 (lv_at hl 1 rfl) ?_
      by_cases hg133 : inbd v5_65 6 = true
      rotate_left; · rw [if_neg hg133] at h; cases h
      rw [if_pos hg133] at h
      refine c_ald_21 (k := 245) hx hb hC hX (by rfl) hg133 d_cVectorCache_entryFor_133 ?_
      obtain ⟨a133, e133, h⟩ := bd_some h
      refine lt_R e133 ?_
      have hka133 := (ke_21 (k := 245) (by rfl) (inbd_lt hg133))
      rw [← e133] at hka133
      obtain rfl := Option.some.inj h
      exact rt_r hQ hx hb hr hX hS hlk d_cVectorCache_entryFor_134
    refine lv_icmp_ne hx hb d_cVectorCache_entryFor_77 (tgt := 93) (by decide) (fun hc => ?_) (fun hc => ?_)
    · rw [if_neg hc] at h
      refine lv_aload_n hx hb d_cVectorCache_entryFor_93 rfl (lv_at hl 0 rfl) ?_
      refine lv_dup hx hb d_cVectorCache_entryFor_94 rfl ?_
      refine c_get_20_4 hx hb hts hown hC hX (by rfl) (hts _ t_299) d_cVectorCache_entryFor_95 ?_
      refine lv_iconst (v := 1) hx hb d_cVectorCache_entryFor_98 (by decide) ?_
      refine lv_iadd hx hb d_cVectorCache_entryFor_99 ?_
      refine c_put_20_4 (v := ((gI S_65 244 4) + 1)) hx hb hts hown hC hX hS (by rfl) (hts _ t_299) d_cVectorCache_entryFor_100 (fun H locs hX hS => ?_)
      obtain ⟨S100, e100, h⟩ := bd_some h
      rw [← e100] at hX
      exact J103 S100 H locs ls  hX hS (lv_sub hl [0, 2] rfl) h
    · rw [if_pos hc] at h
      refine lv_aload_n hx hb d_cVectorCache_entryFor_80 rfl (lv_at hl 0 rfl) ?_
      refine lv_dup hx hb d_cVectorCache_entryFor_81 rfl ?_
      refine c_get_20_3 hx hb hts hown hC hX (by rfl) (hts _ t_297) d_cVectorCache_entryFor_82 ?_
      refine lv_iconst (v := 1) hx hb d_cVectorCache_entryFor_85 (by decide) ?_
      refine lv_iadd hx hb d_cVectorCache_entryFor_86 ?_
      refine c_put_20_3 (v := ((gI S_65 244 3) + 1)) hx hb hts hown hC hX hS (by rfl) (hts _ t_297) d_cVectorCache_entryFor_87 (fun H locs hX hS => ?_)
      obtain ⟨S87, e87, h⟩ := bd_some h
      rw [← e87] at hX
      refine lv_goto hx hb d_cVectorCache_entryFor_90 (tgt := 103) (by decide) ?_
      exact J103 S87 H locs ls  hX hS (lv_sub hl [0, 2] rfl) h
  refine lv_icmp_ne hx hb d_cVectorCache_entryFor_12 (tgt := 65) (by decide) (fun hc => ?_) (fun hc => ?_)
  · rw [if_neg hc] at h
    exact J65 q4 S H locs ls  hX hS (lv_sub hl [1, 5, 0] rfl) h
  · rw [if_pos hc] at h
    refine lv_aload_n hx hb d_cVectorCache_entryFor_15 rfl (lv_at hl 1 rfl) ?_
    obtain ⟨q16, hc16, h⟩ := Option.bind_eq_some_iff.mp h
    refine ck_V (As := []) (rest := []) (st1 := [.int q16.2]) (M_cVectorCache_freePlace  hc16) t_934 t_936 p_36 t_937 t_10 hx hb hts hown hC hX hS (hrc_c20 hC hX (by rfl)) hml hl.1 ⟨by rw [hRf]; decide, by rw [hRl]; decide⟩ ⟨rfl, rfl⟩ (n := 0) (by decide +kernel) rfl rfl rfl (lv_room (Nat.le_of_ble_eq_true rfl)) d_cVectorCache_entryFor_16 (fun H locs hX hS => ?_)
    refine lv_istore (lv' := [(5, .int q16.2), (0, .ref (b + 244)), (1, .int x1), (2, .int x2), (3, .int x3), (4, .int x4)]) hx hb d_cVectorCache_entryFor_19 hl (by decide) rfl (fun ls hl => ?_)
    refine lv_aload_n hx hb d_cVectorCache_entryFor_21 rfl (lv_at hl 1 rfl) ?_
    refine c_get_20_0 hx hb hts hown hC hX (by rfl) (hts _ t_293) d_cVectorCache_entryFor_22 ?_
    refine lv_iload hx hb d_cVectorCache_entryFor_25 (lv_at hl 0 rfl) ?_
    by_cases hg27 : inbd q16.2 6 = true
    rotate_left; · rw [if_neg hg27] at h; cases h
    rw [if_pos hg27] at h
    refine c_ald_21 (k := 245) hx hb hC hX (by rfl) hg27 d_cVectorCache_entryFor_27 ?_
    obtain ⟨a27, e27, h⟩ := bd_some h
    refine lt_R e27 ?_
    have hka27 := (ke_21 (k := 245) (by rfl) (inbd_lt hg27))
    rw [← e27] at hka27
    refine lv_iload_n hx hb d_cVectorCache_entryFor_28 rfl (lv_at hl 2 rfl) ?_
    refine c_put_22_0N (k := a27) (v := x1) hx hb hts hown hC hX hS hka27 (va_Nw.use rfl (hC.2.1 _ t_263)) d_cVectorCache_entryFor_29 (fun H locs hX hS => ?_)
    obtain ⟨S29, e29, h⟩ := bd_some h
    rw [← e29] at hX
    refine lv_aload_n hx hb d_cVectorCache_entryFor_32 rfl (lv_at hl 1 rfl) ?_
    refine c_get_20_0 hx hb hts hown hC hX (by rfl) (hts _ t_293) d_cVectorCache_entryFor_33 ?_
    refine lv_iload hx hb d_cVectorCache_entryFor_36 (lv_at hl 0 rfl) ?_
    by_cases hg38 : inbd q16.2 6 = true
    rotate_left; · rw [if_neg hg38] at h; cases h
    rw [if_pos hg38] at h
    refine c_ald_21 (k := 245) hx hb hC hX (by rfl) hg38 d_cVectorCache_entryFor_38 ?_
    obtain ⟨a38, e38, h⟩ := bd_some h
    refine lt_R e38 ?_
    have hka38 := (ke_21 (k := 245) (by rfl) (inbd_lt hg38))
    rw [← e38] at hka38
    refine lv_iload_n hx hb d_cVectorCache_entryFor_39 rfl (lv_at hl 3 rfl) ?_
    refine c_put_22_1N (k := a38) (v := x2) hx hb hts hown hC hX hS hka38 (va_Nw.use rfl (hC.2.1 _ t_265)) d_cVectorCache_entryFor_40 (fun H locs hX hS => ?_)
    obtain ⟨S40, e40, h⟩ := bd_some h
    rw [← e40] at hX
    refine lv_aload_n hx hb d_cVectorCache_entryFor_43 rfl (lv_at hl 1 rfl) ?_
    refine c_get_20_0 hx hb hts hown hC hX (by rfl) (hts _ t_293) d_cVectorCache_entryFor_44 ?_
    refine lv_iload hx hb d_cVectorCache_entryFor_47 (lv_at hl 0 rfl) ?_
    by_cases hg49 : inbd q16.2 6 = true
    rotate_left; · rw [if_neg hg49] at h; cases h
    rw [if_pos hg49] at h
    refine c_ald_21 (k := 245) hx hb hC hX (by rfl) hg49 d_cVectorCache_entryFor_49 ?_
    obtain ⟨a49, e49, h⟩ := bd_some h
    refine lt_R e49 ?_
    have hka49 := (ke_21 (k := 245) (by rfl) (inbd_lt hg49))
    rw [← e49] at hka49
    refine lv_iload_n hx hb d_cVectorCache_entryFor_50 rfl (lv_at hl 4 rfl) ?_
    refine c_put_22_2N (k := a49) (v := x3) hx hb hts hown hC hX hS hka49 (va_Nw.use rfl (hC.2.1 _ t_267)) d_cVectorCache_entryFor_51 (fun H locs hX hS => ?_)
    obtain ⟨S51, e51, h⟩ := bd_some h
    rw [← e51] at hX
    refine lv_aload_n hx hb d_cVectorCache_entryFor_54 rfl (lv_at hl 1 rfl) ?_
    refine c_get_20_0 hx hb hts hown hC hX (by rfl) (hts _ t_293) d_cVectorCache_entryFor_55 ?_
    refine lv_iload hx hb d_cVectorCache_entryFor_58 (lv_at hl 0 rfl) ?_
    by_cases hg60 : inbd q16.2 6 = true
    rotate_left; · rw [if_neg hg60] at h; cases h
    rw [if_pos hg60] at h
    refine c_ald_21 (k := 245) hx hb hC hX (by rfl) hg60 d_cVectorCache_entryFor_60 ?_
    obtain ⟨a60, e60, h⟩ := bd_some h
    refine lt_R e60 ?_
    have hka60 := (ke_21 (k := 245) (by rfl) (inbd_lt hg60))
    rw [← e60] at hka60
    refine lv_iconst (v := (-1)) hx hb d_cVectorCache_entryFor_61 (by decide) ?_
    refine c_put_22_3N (k := a60) (v := (-1)) hx hb hts hown hC hX hS hka60 (va_Nw.use rfl (hC.2.1 _ t_270)) d_cVectorCache_entryFor_62 (fun H locs hX hS => ?_)
    obtain ⟨S62, e62, h⟩ := bd_some h
    rw [← e62] at hX
    exact J65 q16.2 S62 H locs ls  hX hS (lv_sub hl [1, 5, 0] rfl) h
abbrev y_cG_fill : MethodName := ({ cls := "TypeGuard", name := "fill", desc := "(LTypeGuard$Entry;)V" } : Jvm.MethodName)
theorem d_cG_fill_0 : decode prog_1_method_27_code 0 = .ok (.aload_n 1, 1) := by decide +kernel
theorem d_cG_fill_1 : decode prog_1_method_27_code 1 = .ok (.aload_n 0, 1) := by decide +kernel
theorem d_cG_fill_2 : decode prog_1_method_27_code 2 = .ok (.getfield 23, 3) := by decide +kernel
theorem d_cG_fill_5 : decode prog_1_method_27_code 5 = .ok (.getstatic 112, 3) := by decide +kernel
theorem d_cG_fill_8 : decode prog_1_method_27_code 8 = .ok (.aload_n 1, 1) := by decide +kernel
theorem d_cG_fill_9 : decode prog_1_method_27_code 9 = .ok (.getfield 214, 3) := by decide +kernel
theorem d_cG_fill_12 : decode prog_1_method_27_code 12 = .ok (.aload_n 1, 1) := by decide +kernel
theorem d_cG_fill_13 : decode prog_1_method_27_code 13 = .ok (.getfield 217, 3) := by decide +kernel
theorem d_cG_fill_16 : decode prog_1_method_27_code 16 = .ok (.aload_n 1, 1) := by decide +kernel
theorem d_cG_fill_17 : decode prog_1_method_27_code 17 = .ok (.getfield 220, 3) := by decide +kernel
theorem d_cG_fill_20 : decode prog_1_method_27_code 20 = .ok (.invokevirtual 118, 3) := by decide +kernel
theorem d_cG_fill_23 : decode prog_1_method_27_code 23 = .ok (.putfield 198, 3) := by decide +kernel
theorem d_cG_fill_26 : decode prog_1_method_27_code 26 = .ok (.aload_n 1, 1) := by decide +kernel
theorem d_cG_fill_27 : decode prog_1_method_27_code 27 = .ok (.aload_n 0, 1) := by decide +kernel
theorem d_cG_fill_28 : decode prog_1_method_27_code 28 = .ok (.getfield 23, 3) := by decide +kernel
theorem d_cG_fill_31 : decode prog_1_method_27_code 31 = .ok (.getstatic 122, 3) := by decide +kernel
theorem d_cG_fill_34 : decode prog_1_method_27_code 34 = .ok (.aload_n 1, 1) := by decide +kernel
theorem d_cG_fill_35 : decode prog_1_method_27_code 35 = .ok (.getfield 214, 3) := by decide +kernel
theorem d_cG_fill_38 : decode prog_1_method_27_code 38 = .ok (.aload_n 1, 1) := by decide +kernel
theorem d_cG_fill_39 : decode prog_1_method_27_code 39 = .ok (.getfield 217, 3) := by decide +kernel
theorem d_cG_fill_42 : decode prog_1_method_27_code 42 = .ok (.aload_n 1, 1) := by decide +kernel
theorem d_cG_fill_43 : decode prog_1_method_27_code 43 = .ok (.getfield 220, 3) := by decide +kernel
theorem d_cG_fill_46 : decode prog_1_method_27_code 46 = .ok (.invokevirtual 118, 3) := by decide +kernel
theorem d_cG_fill_49 : decode prog_1_method_27_code 49 = .ok (.putfield 204, 3) := by decide +kernel
theorem d_cG_fill_52 : decode prog_1_method_27_code 52 = .ok (.aload_n 1, 1) := by decide +kernel
theorem d_cG_fill_53 : decode prog_1_method_27_code 53 = .ok (.aload_n 0, 1) := by decide +kernel
theorem d_cG_fill_54 : decode prog_1_method_27_code 54 = .ok (.getfield 23, 3) := by decide +kernel
theorem d_cG_fill_57 : decode prog_1_method_27_code 57 = .ok (.getstatic 125, 3) := by decide +kernel
theorem d_cG_fill_60 : decode prog_1_method_27_code 60 = .ok (.aload_n 1, 1) := by decide +kernel
theorem d_cG_fill_61 : decode prog_1_method_27_code 61 = .ok (.getfield 214, 3) := by decide +kernel
theorem d_cG_fill_64 : decode prog_1_method_27_code 64 = .ok (.aload_n 1, 1) := by decide +kernel
theorem d_cG_fill_65 : decode prog_1_method_27_code 65 = .ok (.getfield 217, 3) := by decide +kernel
theorem d_cG_fill_68 : decode prog_1_method_27_code 68 = .ok (.aload_n 1, 1) := by decide +kernel
theorem d_cG_fill_69 : decode prog_1_method_27_code 69 = .ok (.getfield 220, 3) := by decide +kernel
theorem d_cG_fill_72 : decode prog_1_method_27_code 72 = .ok (.invokevirtual 118, 3) := by decide +kernel
theorem d_cG_fill_75 : decode prog_1_method_27_code 75 = .ok (.putfield 207, 3) := by decide +kernel
theorem d_cG_fill_78 : decode prog_1_method_27_code 78 = .ok (.aload_n 1, 1) := by decide +kernel
theorem d_cG_fill_79 : decode prog_1_method_27_code 79 = .ok (.aload_n 0, 1) := by decide +kernel
theorem d_cG_fill_80 : decode prog_1_method_27_code 80 = .ok (.getfield 70, 3) := by decide +kernel
theorem d_cG_fill_83 : decode prog_1_method_27_code 83 = .ok (.putfield 191, 3) := by decide +kernel
theorem d_cG_fill_86 : decode prog_1_method_27_code 86 = .ok (.return_, 1) := by decide +kernel
def cG_fill (x1 : Nat) (S : CS) : Option CS := (bd (gR S 0 3) fun r2 => (if kd r2 = 7 then ((cPolicy_permissionsBy r2 5 (gI S x1 0) (gI S x1 1) (gI S x1 2) S).bind fun q20 => (bd (pI S x1 5 q20) fun S23 => (bd (gR S23 0 3) fun r28 => (if kd r28 = 7 then ((cPolicy_permissionsBy r28 6 (gI S23 x1 0) (gI S23 x1 1) (gI S23 x1 2) S23).bind fun q46 => (bd (pI S23 x1 6 q46) fun S49 => (bd (gR S49 0 3) fun r54 => (if kd r54 = 7 then ((cPolicy_permissionsBy r54 7 (gI S49 x1 0) (gI S49 x1 1) (gI S49 x1 2) S49).bind fun q72 => (bd (pI S49 x1 7 q72) fun S75 => (bd (pI S75 x1 3 (gI S75 0 4)) fun S83 => some S83))) else none)))) else none)))) else none))
set_option maxHeartbeats 4000000 in
set_option maxRecDepth 100000 in
theorem M_cG_fill {l : Launch} {D : va_G} {cA : Nat → ClassId} {b : Nat} {ad : Nat → Nat} {x1 : Nat} {S : CS} {T : MS × (Nat → Int64)} {rr : CS} (hk1 : kd x1 = 22) (h : cG_fill x1 S = some rr) : Met l y_cG_fill (Cond.code y_cG_fill prog_1_method_27_code 2 (Option.none : Option Jvm.ClassFile.FieldType) :: TW) { frames := 4, cells := 0, slots := 0, locals := 95 } (va_Pc [.ref (b + 0), .ref (b + x1)] (Rp D cA b ad (S, T))) (Qr D cA b ad (rr, T) none) 0 0 (Ab b) := by
  refine Ct_of (by decide) (Nat.le_of_ble_eq_true rfl) ?_
  intro p e R s m args below meth c ls Q H locs hR hQ hx hb hts hown hml hr hlk hC hX hS hl
  have hRf : R.frames = 4 := by rw [hR]
  have hRl : R.locals = 95 := by rw [hR]
  have hown : s.vm.findClass "TypeGuard" = some m.cls := hown
  have hl : lv_has ls 2 [(0, .ref (b + 0)), (1, .ref (b + x1))] := hl
  rw [cG_fill] at h
  refine lv_aload_n hx hb d_cG_fill_0 rfl (lv_at hl 1 rfl) ?_
  refine lv_aload_n hx hb d_cG_fill_1 rfl (lv_at hl 0 rfl) ?_
  refine c_get_0_3 hx hb hts hown hC hX (by rfl) (hts _ t_331) d_cG_fill_2 ?_
  obtain ⟨r2, e2, h⟩ := bd_some h
  refine lt_R e2 ?_
  by_cases hkr2 : kd r2 = 7
  rotate_left; · rw [if_neg hkr2] at h; cases h
  rw [if_pos hkr2] at h
  refine st_W (i := 5) hx hb hC hS hown (hts _ t_865) d_cG_fill_5 (by decide) ?_
  refine lv_aload_n hx hb d_cG_fill_8 rfl (lv_at hl 1 rfl) ?_
  refine c_get_22_0N (k := x1) hx hb hts hown hC hX hk1 (va_Nw.use rfl (hC.2.1 _ t_264)) d_cG_fill_9 ?_
  refine lv_aload_n hx hb d_cG_fill_12 rfl (lv_at hl 1 rfl) ?_
  refine c_get_22_1N (k := x1) hx hb hts hown hC hX hk1 (va_Nw.use rfl (hC.2.1 _ t_266)) d_cG_fill_13 ?_
  refine lv_aload_n hx hb d_cG_fill_16 rfl (lv_at hl 1 rfl) ?_
  refine c_get_22_2N (k := x1) hx hb hts hown hC hX hk1 (va_Nw.use rfl (hC.2.1 _ t_268)) d_cG_fill_17 ?_
  obtain ⟨q20, hc20, h⟩ := Option.bind_eq_some_iff.mp h
  refine ck_V (As := [.ref (ad 5), .int (gI S x1 0), .int (gI S x1 1), .int (gI S x1 2)]) (rest := [.ref (b + x1)]) (st1 := [.int q20, .ref (b + x1)]) (M_cPolicy_permissionsBy hkr2 (by decide) hc20) t_866 t_867 t_868 t_869 t_4 hx hb hts hown hC hX hS (hrc_c7 hC hX hkr2) hml hl.1 ⟨by rw [hRf]; decide, by rw [hRl]; decide⟩ ⟨rfl, rfl⟩ (n := 4) (by decide +kernel) rfl rfl rfl (lv_room (Nat.le_of_ble_eq_true rfl)) d_cG_fill_20 (fun H locs hX hS => ?_)
  refine c_put_22_5N (k := x1) (v := q20) hx hb hts hown hC hX hS hk1 (va_Nw.use rfl (hC.2.1 _ t_273)) d_cG_fill_23 (fun H locs hX hS => ?_)
  obtain ⟨S23, e23, h⟩ := bd_some h
  rw [← e23] at hX
  refine lv_aload_n hx hb d_cG_fill_26 rfl (lv_at hl 1 rfl) ?_
  refine lv_aload_n hx hb d_cG_fill_27 rfl (lv_at hl 0 rfl) ?_
  refine c_get_0_3 hx hb hts hown hC hX (by rfl) (hts _ t_331) d_cG_fill_28 ?_
  obtain ⟨r28, e28, h⟩ := bd_some h
  refine lt_R e28 ?_
  by_cases hkr28 : kd r28 = 7
  rotate_left; · rw [if_neg hkr28] at h; cases h
  rw [if_pos hkr28] at h
  refine st_W (i := 6) hx hb hC hS hown (hts _ t_879) d_cG_fill_31 (by decide) ?_
  refine lv_aload_n hx hb d_cG_fill_34 rfl (lv_at hl 1 rfl) ?_
  refine c_get_22_0N (k := x1) hx hb hts hown hC hX hk1 (va_Nw.use rfl (hC.2.1 _ t_264)) d_cG_fill_35 ?_
  refine lv_aload_n hx hb d_cG_fill_38 rfl (lv_at hl 1 rfl) ?_
  refine c_get_22_1N (k := x1) hx hb hts hown hC hX hk1 (va_Nw.use rfl (hC.2.1 _ t_266)) d_cG_fill_39 ?_
  refine lv_aload_n hx hb d_cG_fill_42 rfl (lv_at hl 1 rfl) ?_
  refine c_get_22_2N (k := x1) hx hb hts hown hC hX hk1 (va_Nw.use rfl (hC.2.1 _ t_268)) d_cG_fill_43 ?_
  obtain ⟨q46, hc46, h⟩ := Option.bind_eq_some_iff.mp h
  refine ck_V (As := [.ref (ad 6), .int (gI S23 x1 0), .int (gI S23 x1 1), .int (gI S23 x1 2)]) (rest := [.ref (b + x1)]) (st1 := [.int q46, .ref (b + x1)]) (M_cPolicy_permissionsBy hkr28 (by decide) hc46) t_866 t_867 t_868 t_869 t_4 hx hb hts hown hC hX hS (hrc_c7 hC hX hkr28) hml hl.1 ⟨by rw [hRf]; decide, by rw [hRl]; decide⟩ ⟨rfl, rfl⟩ (n := 4) (by decide +kernel) rfl rfl rfl (lv_room (Nat.le_of_ble_eq_true rfl)) d_cG_fill_46 (fun H locs hX hS => ?_)
  refine c_put_22_6N (k := x1) (v := q46) hx hb hts hown hC hX hS hk1 (va_Nw.use rfl (hC.2.1 _ t_274)) d_cG_fill_49 (fun H locs hX hS => ?_)
  obtain ⟨S49, e49, h⟩ := bd_some h
  rw [← e49] at hX
  refine lv_aload_n hx hb d_cG_fill_52 rfl (lv_at hl 1 rfl) ?_
  refine lv_aload_n hx hb d_cG_fill_53 rfl (lv_at hl 0 rfl) ?_
  refine c_get_0_3 hx hb hts hown hC hX (by rfl) (hts _ t_331) d_cG_fill_54 ?_
  obtain ⟨r54, e54, h⟩ := bd_some h
  refine lt_R e54 ?_
  by_cases hkr54 : kd r54 = 7
  rotate_left; · rw [if_neg hkr54] at h; cases h
  rw [if_pos hkr54] at h
  refine st_W (i := 7) hx hb hC hS hown (hts _ t_880) d_cG_fill_57 (by decide) ?_
  refine lv_aload_n hx hb d_cG_fill_60 rfl (lv_at hl 1 rfl) ?_
  refine c_get_22_0N (k := x1) hx hb hts hown hC hX hk1 (va_Nw.use rfl (hC.2.1 _ t_264)) d_cG_fill_61 ?_
  refine lv_aload_n hx hb d_cG_fill_64 rfl (lv_at hl 1 rfl) ?_
  refine c_get_22_1N (k := x1) hx hb hts hown hC hX hk1 (va_Nw.use rfl (hC.2.1 _ t_266)) d_cG_fill_65 ?_
  refine lv_aload_n hx hb d_cG_fill_68 rfl (lv_at hl 1 rfl) ?_
  refine c_get_22_2N (k := x1) hx hb hts hown hC hX hk1 (va_Nw.use rfl (hC.2.1 _ t_268)) d_cG_fill_69 ?_
  obtain ⟨q72, hc72, h⟩ := Option.bind_eq_some_iff.mp h
  refine ck_V (As := [.ref (ad 7), .int (gI S49 x1 0), .int (gI S49 x1 1), .int (gI S49 x1 2)]) (rest := [.ref (b + x1)]) (st1 := [.int q72, .ref (b + x1)]) (M_cPolicy_permissionsBy hkr54 (by decide) hc72) t_866 t_867 t_868 t_869 t_4 hx hb hts hown hC hX hS (hrc_c7 hC hX hkr54) hml hl.1 ⟨by rw [hRf]; decide, by rw [hRl]; decide⟩ ⟨rfl, rfl⟩ (n := 4) (by decide +kernel) rfl rfl rfl (lv_room (Nat.le_of_ble_eq_true rfl)) d_cG_fill_72 (fun H locs hX hS => ?_)
  refine c_put_22_7N (k := x1) (v := q72) hx hb hts hown hC hX hS hk1 (va_Nw.use rfl (hC.2.1 _ t_275)) d_cG_fill_75 (fun H locs hX hS => ?_)
  obtain ⟨S75, e75, h⟩ := bd_some h
  rw [← e75] at hX
  refine lv_aload_n hx hb d_cG_fill_78 rfl (lv_at hl 1 rfl) ?_
  refine lv_aload_n hx hb d_cG_fill_79 rfl (lv_at hl 0 rfl) ?_
  refine c_get_0_4 hx hb hts hown hC hX (by rfl) (hts _ t_332) d_cG_fill_80 ?_
  refine c_put_22_3N (k := x1) (v := (gI S75 0 4)) hx hb hts hown hC hX hS hk1 (va_Nw.use rfl (hC.2.1 _ t_271)) d_cG_fill_83 (fun H locs hX hS => ?_)
  obtain ⟨S83, e83, h⟩ := bd_some h
  rw [← e83] at hX
  obtain rfl := Option.some.inj h
  exact rt_v hQ hx hb hr hX hS hlk d_cG_fill_86
abbrev y_cNoteLog_add : MethodName := ({ cls := "TypeGuard$NoteLog", name := "add", desc := "(IIIIZ)V" } : Jvm.MethodName)
theorem d_cNoteLog_add_0 : decode prog_5_method_2_code 0 = .ok (.aload_n 0, 1) := by decide +kernel
theorem d_cNoteLog_add_1 : decode prog_5_method_2_code 1 = .ok (.getfield 11, 3) := by decide +kernel
theorem d_cNoteLog_add_4 : decode prog_5_method_2_code 4 = .ok (.aload_n 0, 1) := by decide +kernel
theorem d_cNoteLog_add_5 : decode prog_5_method_2_code 5 = .ok (.getfield 16, 3) := by decide +kernel
theorem d_cNoteLog_add_8 : decode prog_5_method_2_code 8 = .ok (.bipush 8, 2) := by decide +kernel
theorem d_cNoteLog_add_10 : decode prog_5_method_2_code 10 = .ok (.invokestatic 20, 3) := by decide +kernel
theorem d_cNoteLog_add_13 : decode prog_5_method_2_code 13 = .ok (.aaload, 1) := by decide +kernel
theorem d_cNoteLog_add_14 : decode prog_5_method_2_code 14 = .ok (.astore 6, 2) := by decide +kernel
theorem d_cNoteLog_add_16 : decode prog_5_method_2_code 16 = .ok (.aload 6, 2) := by decide +kernel
theorem d_cNoteLog_add_18 : decode prog_5_method_2_code 18 = .ok (.iconst 0, 1) := by decide +kernel
theorem d_cNoteLog_add_19 : decode prog_5_method_2_code 19 = .ok (.iload_n 1, 1) := by decide +kernel
theorem d_cNoteLog_add_20 : decode prog_5_method_2_code 20 = .ok (.iastore, 1) := by decide +kernel
theorem d_cNoteLog_add_21 : decode prog_5_method_2_code 21 = .ok (.aload 6, 2) := by decide +kernel
theorem d_cNoteLog_add_23 : decode prog_5_method_2_code 23 = .ok (.iconst 1, 1) := by decide +kernel
theorem d_cNoteLog_add_24 : decode prog_5_method_2_code 24 = .ok (.iload_n 2, 1) := by decide +kernel
theorem d_cNoteLog_add_25 : decode prog_5_method_2_code 25 = .ok (.iastore, 1) := by decide +kernel
theorem d_cNoteLog_add_26 : decode prog_5_method_2_code 26 = .ok (.aload 6, 2) := by decide +kernel
theorem d_cNoteLog_add_28 : decode prog_5_method_2_code 28 = .ok (.iconst 2, 1) := by decide +kernel
theorem d_cNoteLog_add_29 : decode prog_5_method_2_code 29 = .ok (.iload_n 3, 1) := by decide +kernel
theorem d_cNoteLog_add_30 : decode prog_5_method_2_code 30 = .ok (.iastore, 1) := by decide +kernel
theorem d_cNoteLog_add_31 : decode prog_5_method_2_code 31 = .ok (.aload 6, 2) := by decide +kernel
theorem d_cNoteLog_add_33 : decode prog_5_method_2_code 33 = .ok (.iconst 3, 1) := by decide +kernel
theorem d_cNoteLog_add_34 : decode prog_5_method_2_code 34 = .ok (.iload 4, 2) := by decide +kernel
theorem d_cNoteLog_add_36 : decode prog_5_method_2_code 36 = .ok (.iastore, 1) := by decide +kernel
theorem d_cNoteLog_add_37 : decode prog_5_method_2_code 37 = .ok (.aload 6, 2) := by decide +kernel
theorem d_cNoteLog_add_39 : decode prog_5_method_2_code 39 = .ok (.iconst 4, 1) := by decide +kernel
theorem d_cNoteLog_add_40 : decode prog_5_method_2_code 40 = .ok (.iload 5, 2) := by decide +kernel
theorem d_cNoteLog_add_42 : decode prog_5_method_2_code 42 = .ok (.ifCond .eq 7, 3) := by decide +kernel
theorem d_cNoteLog_add_45 : decode prog_5_method_2_code 45 = .ok (.iconst 1, 1) := by decide +kernel
theorem d_cNoteLog_add_46 : decode prog_5_method_2_code 46 = .ok (.goto 4, 3) := by decide +kernel
theorem d_cNoteLog_add_49 : decode prog_5_method_2_code 49 = .ok (.iconst 0, 1) := by decide +kernel
theorem d_cNoteLog_add_50 : decode prog_5_method_2_code 50 = .ok (.iastore, 1) := by decide +kernel
theorem d_cNoteLog_add_51 : decode prog_5_method_2_code 51 = .ok (.aload_n 0, 1) := by decide +kernel
theorem d_cNoteLog_add_52 : decode prog_5_method_2_code 52 = .ok (.dup, 1) := by decide +kernel
theorem d_cNoteLog_add_53 : decode prog_5_method_2_code 53 = .ok (.getfield 16, 3) := by decide +kernel
theorem d_cNoteLog_add_56 : decode prog_5_method_2_code 56 = .ok (.iconst 1, 1) := by decide +kernel
theorem d_cNoteLog_add_57 : decode prog_5_method_2_code 57 = .ok (.iadd, 1) := by decide +kernel
theorem d_cNoteLog_add_58 : decode prog_5_method_2_code 58 = .ok (.putfield 16, 3) := by decide +kernel
theorem d_cNoteLog_add_61 : decode prog_5_method_2_code 61 = .ok (.return_, 1) := by decide +kernel
def cNoteLog_add_J50 (s0_50 : Bool) (s1_50 : Int32) (s2_50 : Nat) (S_50 : CS) : Option CS := (if inbd s1_50 5 = true then (bd (pI S_50 s2_50 (txN s1_50) (bI s0_50)) fun S50 => (bd (pI S50 252 1 ((gI S50 252 1) + 1)) fun S58 => some S58)) else none)
def cNoteLog_add (x1 : Int32) (x2 : Int32) (x3 : Int32) (x4 : Int32) (x5 : Bool) (S : CS) : Option CS := ((jMath_floorMod2 (gI S 252 1)).bind fun q10 => (if inbd q10 8 = true then (bd ((253 + (1 + txN q10))) fun a13 => (if inbd 0 5 = true then (bd (pI S a13 (txN 0) x1) fun S20 => (if inbd 1 5 = true then (bd (pI S20 a13 (txN 1) x2) fun S25 => (if inbd 2 5 = true then (bd (pI S25 a13 (txN 2) x3) fun S30 => (if inbd 3 5 = true then (bd (pI S30 a13 (txN 3) x4) fun S36 => (if x5 = true then cNoteLog_add_J50 true 4 a13 S36 else cNoteLog_add_J50 false 4 a13 S36)) else none)) else none)) else none)) else none)) else none))
set_option maxHeartbeats 4000000 in
set_option maxRecDepth 100000 in
theorem M_cNoteLog_add {l : Launch} {D : va_G} {cA : Nat → ClassId} {b : Nat} {ad : Nat → Nat} {x1 : Int32} {x2 : Int32} {x3 : Int32} {x4 : Int32} {x5 : Bool} {S : CS} {T : MS × (Nat → Int64)} {rr : CS}  (h : cNoteLog_add x1 x2 x3 x4 x5 S = some rr) : Met l y_cNoteLog_add (Cond.code y_cNoteLog_add prog_5_method_2_code 7 (Option.none : Option Jvm.ClassFile.FieldType) :: TW) { frames := 1, cells := 0, slots := 0, locals := 22 } (va_Pc [.ref (b + 252), .int x1, .int x2, .int x3, .int x4, .int (bI x5)] (Rp D cA b ad (S, T))) (Qr D cA b ad (rr, T) none) 0 0 (Ab b) := by
  refine Ct_of (by decide) (Nat.le_of_ble_eq_true rfl) ?_
  intro p e R s m args below meth c ls Q H locs hR hQ hx hb hts hown hml hr hlk hC hX hS hl
  have hRf : R.frames = 1 := by rw [hR]
  have hRl : R.locals = 22 := by rw [hR]
  have hown : s.vm.findClass "TypeGuard$NoteLog" = some m.cls := hown
  have hl : lv_has ls 7 [(0, .ref (b + 252)), (1, .int x1), (2, .int x2), (3, .int x3), (4, .int x4), (5, .int (bI x5))] := hl
  rw [cNoteLog_add] at h
  refine lv_aload_n hx hb d_cNoteLog_add_0 rfl (lv_at hl 0 rfl) ?_
  refine c_get_23_0 hx hb hts hown hC hX (by rfl) (hts _ t_320) d_cNoteLog_add_1 ?_
  refine lv_aload_n hx hb d_cNoteLog_add_4 rfl (lv_at hl 0 rfl) ?_
  refine c_get_23_1 hx hb hts hown hC hX (by rfl) (hts _ t_321) d_cNoteLog_add_5 ?_
  refine lv_bipush (v := 8) hx hb d_cNoteLog_add_8 (by decide) ?_
  obtain ⟨q10, hc10, h⟩ := Option.bind_eq_some_iff.mp h
  refine ck_S (As := [.int (gI S 252 1), .int 8]) (rest := [.ref (b + 253)]) (st1 := [.int q10, .ref (b + 253)]) (M_jMath_floorMod2  hc10) t_416 t_417 t_418 t_16 hx hb hts hown hC hX hS  hml hl.1 ⟨by rw [hRf]; decide, by rw [hRl]; decide⟩ ⟨rfl, rfl⟩ (n := 2) (by decide +kernel) rfl rfl rfl (lv_room (Nat.le_of_ble_eq_true rfl)) d_cNoteLog_add_10 (fun H locs hX hS => ?_)
  by_cases hg13 : inbd q10 8 = true
  rotate_left; · rw [if_neg hg13] at h; cases h
  rw [if_pos hg13] at h
  refine c_ald_24 (k := 253) hx hb hC hX (by rfl) hg13 d_cNoteLog_add_13 ?_
  obtain ⟨a13, e13, h⟩ := bd_some h
  refine lt_R e13 ?_
  have hka13 := (ke_24 (k := 253) (by rfl) (inbd_lt hg13))
  rw [← e13] at hka13
  refine lv_astore (lv' := [(6, .ref (b + a13)), (0, .ref (b + 252)), (1, .int x1), (2, .int x2), (3, .int x3), (4, .int x4), (5, .int (bI x5))]) hx hb d_cNoteLog_add_14 hl (by decide) rfl (fun ls hl => ?_)
  refine lv_aload hx hb d_cNoteLog_add_16 (lv_at hl 0 rfl) ?_
  refine lv_iconst (v := 0) hx hb d_cNoteLog_add_18 (by decide) ?_
  refine lv_iload_n hx hb d_cNoteLog_add_19 rfl (lv_at hl 2 rfl) ?_
  by_cases hg20 : inbd 0 5 = true
  rotate_left; · rw [if_neg hg20] at h; cases h
  rw [if_pos hg20] at h
  refine c_ast_25 (k := a13) (v := x1) hx hb hC hX hS hka13 hg20 d_cNoteLog_add_20 (fun H locs hX hS => ?_)
  obtain ⟨S20, e20, h⟩ := bd_some h
  rw [← e20] at hX
  refine lv_aload hx hb d_cNoteLog_add_21 (lv_at hl 0 rfl) ?_
  refine lv_iconst (v := 1) hx hb d_cNoteLog_add_23 (by decide) ?_
  refine lv_iload_n hx hb d_cNoteLog_add_24 rfl (lv_at hl 3 rfl) ?_
  by_cases hg25 : inbd 1 5 = true
  rotate_left; · rw [if_neg hg25] at h; cases h
  rw [if_pos hg25] at h
  refine c_ast_25 (k := a13) (v := x2) hx hb hC hX hS hka13 hg25 d_cNoteLog_add_25 (fun H locs hX hS => ?_)
  obtain ⟨S25, e25, h⟩ := bd_some h
  rw [← e25] at hX
  refine lv_aload hx hb d_cNoteLog_add_26 (lv_at hl 0 rfl) ?_
  refine lv_iconst (v := 2) hx hb d_cNoteLog_add_28 (by decide) ?_
  refine lv_iload_n hx hb d_cNoteLog_add_29 rfl (lv_at hl 4 rfl) ?_
  by_cases hg30 : inbd 2 5 = true
  rotate_left; · rw [if_neg hg30] at h; cases h
  rw [if_pos hg30] at h
  refine c_ast_25 (k := a13) (v := x3) hx hb hC hX hS hka13 hg30 d_cNoteLog_add_30 (fun H locs hX hS => ?_)
  obtain ⟨S30, e30, h⟩ := bd_some h
  rw [← e30] at hX
  refine lv_aload hx hb d_cNoteLog_add_31 (lv_at hl 0 rfl) ?_
  refine lv_iconst (v := 3) hx hb d_cNoteLog_add_33 (by decide) ?_
  refine lv_iload hx hb d_cNoteLog_add_34 (lv_at hl 5 rfl) ?_
  by_cases hg36 : inbd 3 5 = true
  rotate_left; · rw [if_neg hg36] at h; cases h
  rw [if_pos hg36] at h
  refine c_ast_25 (k := a13) (v := x4) hx hb hC hX hS hka13 hg36 d_cNoteLog_add_36 (fun H locs hX hS => ?_)
  obtain ⟨S36, e36, h⟩ := bd_some h
  rw [← e36] at hX
  refine lv_aload hx hb d_cNoteLog_add_37 (lv_at hl 0 rfl) ?_
  refine lv_iconst (v := 4) hx hb d_cNoteLog_add_39 (by decide) ?_
  refine lv_iload hx hb d_cNoteLog_add_40 (lv_at hl 6 rfl) ?_
  have J50 : ∀ (s0_50 : Bool) (H : Heap) (locs : List Loc) (ls : Array Slot), hp D cA b ad (S36, T) H → va_S (Ab b) s.heap H locs → lv_has ls 7 [(0, .ref (b + 252))] → cNoteLog_add_J50 s0_50 4 a13 S36 = some rr → W p l e R s m args below meth c H locs 0 0 Q (F0 m 50 ls [.int (bI s0_50), .int 4, .ref (b + a13)]) := by
    intro s0_50 H locs ls  hX hS hl h
    rw [cNoteLog_add_J50] at h
    by_cases hg50 : inbd 4 5 = true
    rotate_left; · rw [if_neg hg50] at h; cases h
    rw [if_pos hg50] at h
    refine c_ast_25 (k := a13) (v := (bI s0_50)) hx hb hC hX hS hka13 hg50 d_cNoteLog_add_50 (fun H locs hX hS => ?_)
    obtain ⟨S50, e50, h⟩ := bd_some h
    rw [← e50] at hX
    refine lv_aload_n hx hb d_cNoteLog_add_51 rfl (lv_at hl 0 rfl) ?_
    refine lv_dup hx hb d_cNoteLog_add_52 rfl ?_
    refine c_get_23_1 hx hb hts hown hC hX (by rfl) (hts _ t_321) d_cNoteLog_add_53 ?_
    refine lv_iconst (v := 1) hx hb d_cNoteLog_add_56 (by decide) ?_
    refine lv_iadd hx hb d_cNoteLog_add_57 ?_
    refine c_put_23_1 (v := ((gI S50 252 1) + 1)) hx hb hts hown hC hX hS (by rfl) (hts _ t_321) d_cNoteLog_add_58 (fun H locs hX hS => ?_)
    obtain ⟨S58, e58, h⟩ := bd_some h
    rw [← e58] at hX
    obtain rfl := Option.some.inj h
    exact rt_v hQ hx hb hr hX hS hlk d_cNoteLog_add_61
  refine lz_ifeq hx hb d_cNoteLog_add_42 (tgt := 49) (by decide) (fun hc => ?_) (fun hc => ?_)
  · rw [if_neg hc] at h
    refine lv_iconst (v := 0) hx hb d_cNoteLog_add_49 (by decide) ?_
    exact J50 false H locs ls  hX hS (lv_sub hl [1] rfl) h
  · rw [if_pos hc] at h
    refine lv_iconst (v := 1) hx hb d_cNoteLog_add_45 (by decide) ?_
    refine lv_goto hx hb d_cNoteLog_add_46 (tgt := 50) (by decide) ?_
    exact J50 true H locs ls  hX hS (lv_sub hl [1] rfl) h
abbrev y_cG_isGranted : MethodName := ({ cls := "TypeGuard", name := "isGranted", desc := "(IIII)Z" } : Jvm.MethodName)
theorem d_cG_isGranted_0 : decode prog_1_method_26_code 0 = .ok (.aload_n 0, 1) := by decide +kernel
theorem d_cG_isGranted_1 : decode prog_1_method_26_code 1 = .ok (.getfield 40, 3) := by decide +kernel
theorem d_cG_isGranted_4 : decode prog_1_method_26_code 4 = .ok (.iload_n 1, 1) := by decide +kernel
theorem d_cG_isGranted_5 : decode prog_1_method_26_code 5 = .ok (.iload_n 2, 1) := by decide +kernel
theorem d_cG_isGranted_6 : decode prog_1_method_26_code 6 = .ok (.iload_n 3, 1) := by decide +kernel
theorem d_cG_isGranted_7 : decode prog_1_method_26_code 7 = .ok (.aload_n 0, 1) := by decide +kernel
theorem d_cG_isGranted_8 : decode prog_1_method_26_code 8 = .ok (.getfield 70, 3) := by decide +kernel
theorem d_cG_isGranted_11 : decode prog_1_method_26_code 11 = .ok (.invokevirtual 187, 3) := by decide +kernel
theorem d_cG_isGranted_14 : decode prog_1_method_26_code 14 = .ok (.astore 5, 2) := by decide +kernel
theorem d_cG_isGranted_16 : decode prog_1_method_26_code 16 = .ok (.aload 5, 2) := by decide +kernel
theorem d_cG_isGranted_18 : decode prog_1_method_26_code 18 = .ok (.getfield 191, 3) := by decide +kernel
theorem d_cG_isGranted_21 : decode prog_1_method_26_code 21 = .ok (.aload_n 0, 1) := by decide +kernel
theorem d_cG_isGranted_22 : decode prog_1_method_26_code 22 = .ok (.getfield 70, 3) := by decide +kernel
theorem d_cG_isGranted_25 : decode prog_1_method_26_code 25 = .ok (.if_icmp .eq 9, 3) := by decide +kernel
theorem d_cG_isGranted_28 : decode prog_1_method_26_code 28 = .ok (.aload_n 0, 1) := by decide +kernel
theorem d_cG_isGranted_29 : decode prog_1_method_26_code 29 = .ok (.aload 5, 2) := by decide +kernel
theorem d_cG_isGranted_31 : decode prog_1_method_26_code 31 = .ok (.invokevirtual 194, 3) := by decide +kernel
theorem d_cG_isGranted_34 : decode prog_1_method_26_code 34 = .ok (.aload 5, 2) := by decide +kernel
theorem d_cG_isGranted_36 : decode prog_1_method_26_code 36 = .ok (.getfield 198, 3) := by decide +kernel
theorem d_cG_isGranted_39 : decode prog_1_method_26_code 39 = .ok (.iload 4, 2) := by decide +kernel
theorem d_cG_isGranted_41 : decode prog_1_method_26_code 41 = .ok (.invokestatic 201, 3) := by decide +kernel
theorem d_cG_isGranted_44 : decode prog_1_method_26_code 44 = .ok (.istore 6, 2) := by decide +kernel
theorem d_cG_isGranted_46 : decode prog_1_method_26_code 46 = .ok (.iload 6, 2) := by decide +kernel
theorem d_cG_isGranted_48 : decode prog_1_method_26_code 48 = .ok (.ifCond .eq 16, 3) := by decide +kernel
theorem d_cG_isGranted_51 : decode prog_1_method_26_code 51 = .ok (.aload 5, 2) := by decide +kernel
theorem d_cG_isGranted_53 : decode prog_1_method_26_code 53 = .ok (.getfield 204, 3) := by decide +kernel
theorem d_cG_isGranted_56 : decode prog_1_method_26_code 56 = .ok (.iload 4, 2) := by decide +kernel
theorem d_cG_isGranted_58 : decode prog_1_method_26_code 58 = .ok (.invokestatic 201, 3) := by decide +kernel
theorem d_cG_isGranted_61 : decode prog_1_method_26_code 61 = .ok (.goto 21, 3) := by decide +kernel
theorem d_cG_isGranted_64 : decode prog_1_method_26_code 64 = .ok (.aload 5, 2) := by decide +kernel
theorem d_cG_isGranted_66 : decode prog_1_method_26_code 66 = .ok (.getfield 207, 3) := by decide +kernel
theorem d_cG_isGranted_69 : decode prog_1_method_26_code 69 = .ok (.iload 4, 2) := by decide +kernel
theorem d_cG_isGranted_71 : decode prog_1_method_26_code 71 = .ok (.invokestatic 201, 3) := by decide +kernel
theorem d_cG_isGranted_74 : decode prog_1_method_26_code 74 = .ok (.ifCond .ne 7, 3) := by decide +kernel
theorem d_cG_isGranted_77 : decode prog_1_method_26_code 77 = .ok (.iconst 1, 1) := by decide +kernel
theorem d_cG_isGranted_78 : decode prog_1_method_26_code 78 = .ok (.goto 4, 3) := by decide +kernel
theorem d_cG_isGranted_81 : decode prog_1_method_26_code 81 = .ok (.iconst 0, 1) := by decide +kernel
theorem d_cG_isGranted_82 : decode prog_1_method_26_code 82 = .ok (.istore 7, 2) := by decide +kernel
theorem d_cG_isGranted_84 : decode prog_1_method_26_code 84 = .ok (.iload 7, 2) := by decide +kernel
theorem d_cG_isGranted_86 : decode prog_1_method_26_code 86 = .ok (.ifCond .eq 17, 3) := by decide +kernel
theorem d_cG_isGranted_89 : decode prog_1_method_26_code 89 = .ok (.aload_n 0, 1) := by decide +kernel
theorem d_cG_isGranted_90 : decode prog_1_method_26_code 90 = .ok (.getfield 47, 3) := by decide +kernel
theorem d_cG_isGranted_93 : decode prog_1_method_26_code 93 = .ok (.iload_n 1, 1) := by decide +kernel
theorem d_cG_isGranted_94 : decode prog_1_method_26_code 94 = .ok (.iload_n 2, 1) := by decide +kernel
theorem d_cG_isGranted_95 : decode prog_1_method_26_code 95 = .ok (.iload_n 3, 1) := by decide +kernel
theorem d_cG_isGranted_96 : decode prog_1_method_26_code 96 = .ok (.iload 4, 2) := by decide +kernel
theorem d_cG_isGranted_98 : decode prog_1_method_26_code 98 = .ok (.iload 6, 2) := by decide +kernel
theorem d_cG_isGranted_100 : decode prog_1_method_26_code 100 = .ok (.invokevirtual 210, 3) := by decide +kernel
theorem d_cG_isGranted_103 : decode prog_1_method_26_code 103 = .ok (.iload 6, 2) := by decide +kernel
theorem d_cG_isGranted_105 : decode prog_1_method_26_code 105 = .ok (.ireturn, 1) := by decide +kernel
def cG_isGranted_J82 (v1_82 : Int32) (v2_82 : Int32) (v3_82 : Int32) (v4_82 : Int32) (v6_82 : Bool) (s0_82 : Bool) (S_82 : CS) : Option (CS × Bool) := (if s0_82 = true then ((cNoteLog_add v1_82 v2_82 v3_82 v4_82 v6_82 S_82).bind fun q100 => some (q100, v6_82)) else some (S_82, v6_82))
def cG_isGranted_J34 (v1_34 : Int32) (v2_34 : Int32) (v3_34 : Int32) (v4_34 : Int32) (v5_34 : Nat) (S_34 : CS) : Option (CS × Bool) := ((cG_hasBit (gI S_34 v5_34 5) v4_34).bind fun q41 => (if q41 = true then ((cG_hasBit (gI S_34 v5_34 6) v4_34).bind fun q58 => cG_isGranted_J82 v1_34 v2_34 v3_34 v4_34 q41 q58 S_34) else ((cG_hasBit (gI S_34 v5_34 7) v4_34).bind fun q71 => (if q71 = true then cG_isGranted_J82 v1_34 v2_34 v3_34 v4_34 q41 false S_34 else cG_isGranted_J82 v1_34 v2_34 v3_34 v4_34 q41 true S_34))))
def cG_isGranted (x1 : Int32) (x2 : Int32) (x3 : Int32) (x4 : Int32) (S : CS) : Option (CS × Bool) := ((cVectorCache_entryFor x1 x2 x3 (gI S 0 4) S).bind fun q11 => (if kd q11.2 = 22 then (if (gI q11.1 q11.2 3) = (gI q11.1 0 4) then cG_isGranted_J34 x1 x2 x3 x4 q11.2 q11.1 else ((cG_fill q11.2 q11.1).bind fun q31 => cG_isGranted_J34 x1 x2 x3 x4 q11.2 q31)) else none))
set_option maxHeartbeats 4000000 in
set_option maxRecDepth 100000 in
theorem M_cG_isGranted {l : Launch} {D : va_G} {cA : Nat → ClassId} {b : Nat} {ad : Nat → Nat} {x1 : Int32} {x2 : Int32} {x3 : Int32} {x4 : Int32} {S : CS} {T : MS × (Nat → Int64)} {rr : (CS × Bool)}  (h : cG_isGranted x1 x2 x3 x4 S = some rr) : Met l y_cG_isGranted (Cond.code y_cG_isGranted prog_1_method_26_code 8 (Option.some Jvm.ClassFile.FieldType.boolean) :: TW) { frames := 5, cells := 0, slots := 0, locals := 116 } (va_Pc [.ref (b + 0), .int x1, .int x2, .int x3, .int x4] (Rp D cA b ad (S, T))) (Qr D cA b ad (rr.1, T) (some (.int (bI rr.2)))) 0 0 (Ab b) := by
  refine Ct_of (by decide) (Nat.le_of_ble_eq_true rfl) ?_
  intro p e R s m args below meth c ls Q H locs hR hQ hx hb hts hown hml hr hlk hC hX hS hl
  have hRf : R.frames = 5 := by rw [hR]
  have hRl : R.locals = 116 := by rw [hR]
  have hown : s.vm.findClass "TypeGuard" = some m.cls := hown
  have hl : lv_has ls 8 [(0, .ref (b + 0)), (1, .int x1), (2, .int x2), (3, .int x3), (4, .int x4)] := hl
  rw [cG_isGranted] at h
  refine lv_aload_n hx hb d_cG_isGranted_0 rfl (lv_at hl 0 rfl) ?_
  refine c_get_0_8 hx hb hts hown hC hX (by rfl) (hts _ t_336) d_cG_isGranted_1 ?_
  refine lv_iload_n hx hb d_cG_isGranted_4 rfl (lv_at hl 1 rfl) ?_
  refine lv_iload_n hx hb d_cG_isGranted_5 rfl (lv_at hl 2 rfl) ?_
  refine lv_iload_n hx hb d_cG_isGranted_6 rfl (lv_at hl 3 rfl) ?_
  refine lv_aload_n hx hb d_cG_isGranted_7 rfl (lv_at hl 0 rfl) ?_
  refine c_get_0_4 hx hb hts hown hC hX (by rfl) (hts _ t_332) d_cG_isGranted_8 ?_
  obtain ⟨q11, hc11, h⟩ := Option.bind_eq_some_iff.mp h
  refine ck_V (As := [.int x1, .int x2, .int x3, .int (gI S 0 4)]) (rest := []) (st1 := [.ref (b + q11.2)]) (M_cVectorCache_entryFor  hc11) t_926 t_927 t_928 t_929 t_10 hx hb hts hown hC hX hS (hrc_c20 hC hX (by rfl)) hml hl.1 ⟨by rw [hRf]; decide, by rw [hRl]; decide⟩ ⟨rfl, rfl⟩ (n := 4) (by decide +kernel) rfl rfl rfl (lv_room (Nat.le_of_ble_eq_true rfl)) d_cG_isGranted_11 (fun H locs hX hS => ?_)
  by_cases hkq11 : kd q11.2 = 22
  rotate_left; · rw [if_neg hkq11] at h; cases h
  rw [if_pos hkq11] at h
  refine lv_astore (lv' := [(5, .ref (b + q11.2)), (0, .ref (b + 0)), (1, .int x1), (2, .int x2), (3, .int x3), (4, .int x4)]) hx hb d_cG_isGranted_14 hl (by decide) rfl (fun ls hl => ?_)
  refine lv_aload hx hb d_cG_isGranted_16 (lv_at hl 0 rfl) ?_
  refine c_get_22_3N (k := q11.2) hx hb hts hown hC hX hkq11 (va_Nw.use rfl (hC.2.1 _ t_271)) d_cG_isGranted_18 ?_
  refine lv_aload_n hx hb d_cG_isGranted_21 rfl (lv_at hl 1 rfl) ?_
  refine c_get_0_4 hx hb hts hown hC hX (by rfl) (hts _ t_332) d_cG_isGranted_22 ?_
  have J34 : ∀ (S_34 : CS) (H : Heap) (locs : List Loc) (ls : Array Slot), hp D cA b ad (S_34, T) H → va_S (Ab b) s.heap H locs → lv_has ls 8 [(0, .ref (b + 0)), (1, .int x1), (2, .int x2), (3, .int x3), (4, .int x4), (5, .ref (b + q11.2))] → cG_isGranted_J34 x1 x2 x3 x4 q11.2 S_34 = some rr → W p l e R s m args below meth c H locs 0 0 Q (F0 m 34 ls []) := by
    intro S_34 H locs ls  hX hS hl h
    rw [cG_isGranted_J34] at h
    refine lv_aload hx hb d_cG_isGranted_34 (lv_at hl 5 rfl) ?_
    refine c_get_22_5N (k := q11.2) hx hb hts hown hC hX hkq11 (va_Nw.use rfl (hC.2.1 _ t_273)) d_cG_isGranted_36 ?_
    refine lv_iload hx hb d_cG_isGranted_39 (lv_at hl 4 rfl) ?_
    obtain ⟨q41, hc41, h⟩ := Option.bind_eq_some_iff.mp h
    refine ck_S (As := [.int (gI S_34 q11.2 5), .int x4]) (rest := []) (st1 := [.int (bI q41)]) (M_cG_hasBit  hc41) t_942 t_651 t_652 t_1 hx hb hts hown hC hX hS  hml hl.1 ⟨by rw [hRf]; decide, by rw [hRl]; decide⟩ ⟨rfl, rfl⟩ (n := 2) (by decide +kernel) rfl rfl rfl (lv_room (Nat.le_of_ble_eq_true rfl)) d_cG_isGranted_41 (fun H locs hX hS => ?_)
    refine lv_istore (lv' := [(6, .int (bI q41)), (0, .ref (b + 0)), (1, .int x1), (2, .int x2), (3, .int x3), (4, .int x4), (5, .ref (b + q11.2))]) hx hb d_cG_isGranted_44 hl (by decide) rfl (fun ls hl => ?_)
    refine lv_iload hx hb d_cG_isGranted_46 (lv_at hl 0 rfl) ?_
    have J82 : ∀ (s0_82 : Bool) (H : Heap) (locs : List Loc) (ls : Array Slot), hp D cA b ad (S_34, T) H → va_S (Ab b) s.heap H locs → lv_has ls 8 [(0, .ref (b + 0)), (1, .int x1), (2, .int x2), (3, .int x3), (4, .int x4), (6, .int (bI q41))] → cG_isGranted_J82 x1 x2 x3 x4 q41 s0_82 S_34 = some rr → W p l e R s m args below meth c H locs 0 0 Q (F0 m 82 ls [.int (bI s0_82)]) := by
      intro s0_82 H locs ls  hX hS hl h
      rw [cG_isGranted_J82] at h
      refine lv_istore (lv' := [(7, .int (bI s0_82)), (0, .ref (b + 0)), (1, .int x1), (2, .int x2), (3, .int x3), (4, .int x4), (6, .int (bI q41))]) hx hb d_cG_isGranted_82 hl (by decide) rfl (fun ls hl => ?_)
      refine lv_iload hx hb d_cG_isGranted_84 (lv_at hl 0 rfl) ?_
      refine lz_ifeq hx hb d_cG_isGranted_86 (tgt := 103) (by decide) (fun hc => ?_) (fun hc => ?_)
      · rw [if_neg hc] at h
        refine lv_iload hx hb d_cG_isGranted_103 (lv_at hl 6 rfl) ?_
        obtain rfl := Option.some.inj h
        exact rt_z hQ hx hb hr hX hS hlk d_cG_isGranted_105
      · rw [if_pos hc] at h
        refine lv_aload_n hx hb d_cG_isGranted_89 rfl (lv_at hl 1 rfl) ?_
        refine c_get_0_9 hx hb hts hown hC hX (by rfl) (hts _ t_337) d_cG_isGranted_90 ?_
        refine lv_iload_n hx hb d_cG_isGranted_93 rfl (lv_at hl 2 rfl) ?_
        refine lv_iload_n hx hb d_cG_isGranted_94 rfl (lv_at hl 3 rfl) ?_
        refine lv_iload_n hx hb d_cG_isGranted_95 rfl (lv_at hl 4 rfl) ?_
        refine lv_iload hx hb d_cG_isGranted_96 (lv_at hl 5 rfl) ?_
        refine lv_iload hx hb d_cG_isGranted_98 (lv_at hl 6 rfl) ?_
        obtain ⟨q100, hc100, h⟩ := Option.bind_eq_some_iff.mp h
        refine ck_V (As := [.int x1, .int x2, .int x3, .int x4, .int (bI q41)]) (rest := []) (st1 := []) (M_cNoteLog_add  hc100) t_943 t_944 t_945 t_946 t_12 hx hb hts hown hC hX hS (hrc_c23 hC hX (by rfl)) hml hl.1 ⟨by rw [hRf]; decide, by rw [hRl]; decide⟩ ⟨rfl, rfl⟩ (n := 5) (by decide +kernel) rfl rfl rfl (lv_room (Nat.le_of_ble_eq_true rfl)) d_cG_isGranted_100 (fun H locs hX hS => ?_)
        refine lv_iload hx hb d_cG_isGranted_103 (lv_at hl 6 rfl) ?_
        obtain rfl := Option.some.inj h
        exact rt_z hQ hx hb hr hX hS hlk d_cG_isGranted_105
    refine lz_ifeq hx hb d_cG_isGranted_48 (tgt := 64) (by decide) (fun hc => ?_) (fun hc => ?_)
    · rw [if_neg hc] at h
      refine lv_aload hx hb d_cG_isGranted_64 (lv_at hl 6 rfl) ?_
      refine c_get_22_7N (k := q11.2) hx hb hts hown hC hX hkq11 (va_Nw.use rfl (hC.2.1 _ t_275)) d_cG_isGranted_66 ?_
      refine lv_iload hx hb d_cG_isGranted_69 (lv_at hl 5 rfl) ?_
      obtain ⟨q71, hc71, h⟩ := Option.bind_eq_some_iff.mp h
      refine ck_S (As := [.int (gI S_34 q11.2 7), .int x4]) (rest := []) (st1 := [.int (bI q71)]) (M_cG_hasBit  hc71) t_942 t_651 t_652 t_1 hx hb hts hown hC hX hS  hml hl.1 ⟨by rw [hRf]; decide, by rw [hRl]; decide⟩ ⟨rfl, rfl⟩ (n := 2) (by decide +kernel) rfl rfl rfl (lv_room (Nat.le_of_ble_eq_true rfl)) d_cG_isGranted_71 (fun H locs hX hS => ?_)
      refine lz_ifne hx hb d_cG_isGranted_74 (tgt := 81) (by decide) (fun hc => ?_) (fun hc => ?_)
      · rw [if_pos hc] at h
        refine lv_iconst (v := 0) hx hb d_cG_isGranted_81 (by decide) ?_
        exact J82 false H locs ls  hX hS (lv_sub hl [1, 2, 3, 4, 5, 0] rfl) h
      · rw [if_neg hc] at h
        refine lv_iconst (v := 1) hx hb d_cG_isGranted_77 (by decide) ?_
        refine lv_goto hx hb d_cG_isGranted_78 (tgt := 82) (by decide) ?_
        exact J82 true H locs ls  hX hS (lv_sub hl [1, 2, 3, 4, 5, 0] rfl) h
    · rw [if_pos hc] at h
      refine lv_aload hx hb d_cG_isGranted_51 (lv_at hl 6 rfl) ?_
      refine c_get_22_6N (k := q11.2) hx hb hts hown hC hX hkq11 (va_Nw.use rfl (hC.2.1 _ t_274)) d_cG_isGranted_53 ?_
      refine lv_iload hx hb d_cG_isGranted_56 (lv_at hl 5 rfl) ?_
      obtain ⟨q58, hc58, h⟩ := Option.bind_eq_some_iff.mp h
      refine ck_S (As := [.int (gI S_34 q11.2 6), .int x4]) (rest := []) (st1 := [.int (bI q58)]) (M_cG_hasBit  hc58) t_942 t_651 t_652 t_1 hx hb hts hown hC hX hS  hml hl.1 ⟨by rw [hRf]; decide, by rw [hRl]; decide⟩ ⟨rfl, rfl⟩ (n := 2) (by decide +kernel) rfl rfl rfl (lv_room (Nat.le_of_ble_eq_true rfl)) d_cG_isGranted_58 (fun H locs hX hS => ?_)
      refine lv_goto hx hb d_cG_isGranted_61 (tgt := 82) (by decide) ?_
      exact J82 q58 H locs ls  hX hS (lv_sub hl [1, 2, 3, 4, 5, 0] rfl) h
  refine lv_icmp_eq hx hb d_cG_isGranted_25 (tgt := 34) (by decide) (fun hc => ?_) (fun hc => ?_)
  · rw [if_pos hc] at h
    exact J34 q11.1 H locs ls  hX hS (lv_sub hl [1, 2, 3, 4, 5, 0] rfl) h
  · rw [if_neg hc] at h
    refine lv_aload_n hx hb d_cG_isGranted_28 rfl (lv_at hl 1 rfl) ?_
    refine lv_aload hx hb d_cG_isGranted_29 (lv_at hl 0 rfl) ?_
    obtain ⟨q31, hc31, h⟩ := Option.bind_eq_some_iff.mp h
    refine ck_V (As := [.ref (b + q11.2)]) (rest := []) (st1 := []) (M_cG_fill hkq11 hc31) t_938 t_940 p_37 t_941 t_1 hx hb hts hown hC hX hS (hrc_c0 hC hX (by rfl)) hml hl.1 ⟨by rw [hRf]; decide, by rw [hRl]; decide⟩ ⟨rfl, rfl⟩ (n := 1) (by decide +kernel) rfl rfl rfl (lv_room (Nat.le_of_ble_eq_true rfl)) d_cG_isGranted_31 (fun H locs hX hS => ?_)
    exact J34 q31 H locs ls  hX hS (lv_sub hl [1, 2, 3, 4, 5, 0] rfl) h
abbrev y_cPolicy_moved : MethodName := ({ cls := "TypeGuard$Policy", name := "moved", desc := "(IIII)I" } : Jvm.MethodName)
theorem d_cPolicy_moved_0 : decode prog_6_method_6_code 0 = .ok (.iconst 0, 1) := by decide +kernel
theorem d_cPolicy_moved_1 : decode prog_6_method_6_code 1 = .ok (.istore 5, 2) := by decide +kernel
theorem d_cPolicy_moved_3 : decode prog_6_method_6_code 3 = .ok (.iload 5, 2) := by decide +kernel
theorem d_cPolicy_moved_5 : decode prog_6_method_6_code 5 = .ok (.aload_n 0, 1) := by decide +kernel
theorem d_cPolicy_moved_6 : decode prog_6_method_6_code 6 = .ok (.getfield 52, 3) := by decide +kernel
theorem d_cPolicy_moved_9 : decode prog_6_method_6_code 9 = .ok (.if_icmp .ge 52, 3) := by decide +kernel
theorem d_cPolicy_moved_12 : decode prog_6_method_6_code 12 = .ok (.aload_n 0, 1) := by decide +kernel
theorem d_cPolicy_moved_13 : decode prog_6_method_6_code 13 = .ok (.getfield 43, 3) := by decide +kernel
theorem d_cPolicy_moved_16 : decode prog_6_method_6_code 16 = .ok (.iload 5, 2) := by decide +kernel
theorem d_cPolicy_moved_18 : decode prog_6_method_6_code 18 = .ok (.aaload, 1) := by decide +kernel
theorem d_cPolicy_moved_19 : decode prog_6_method_6_code 19 = .ok (.getfield 59, 3) := by decide +kernel
theorem d_cPolicy_moved_22 : decode prog_6_method_6_code 22 = .ok (.getstatic 79, 3) := by decide +kernel
theorem d_cPolicy_moved_25 : decode prog_6_method_6_code 25 = .ok (.if_acmp .ne 30, 3) := by decide +kernel
theorem d_cPolicy_moved_28 : decode prog_6_method_6_code 28 = .ok (.aload_n 0, 1) := by decide +kernel
theorem d_cPolicy_moved_29 : decode prog_6_method_6_code 29 = .ok (.getfield 43, 3) := by decide +kernel
theorem d_cPolicy_moved_32 : decode prog_6_method_6_code 32 = .ok (.iload 5, 2) := by decide +kernel
theorem d_cPolicy_moved_34 : decode prog_6_method_6_code 34 = .ok (.aaload, 1) := by decide +kernel
theorem d_cPolicy_moved_35 : decode prog_6_method_6_code 35 = .ok (.iload_n 1, 1) := by decide +kernel
theorem d_cPolicy_moved_36 : decode prog_6_method_6_code 36 = .ok (.iload_n 2, 1) := by decide +kernel
theorem d_cPolicy_moved_37 : decode prog_6_method_6_code 37 = .ok (.iload_n 3, 1) := by decide +kernel
theorem d_cPolicy_moved_38 : decode prog_6_method_6_code 38 = .ok (.invokevirtual 82, 3) := by decide +kernel
theorem d_cPolicy_moved_41 : decode prog_6_method_6_code 41 = .ok (.ifCond .eq 14, 3) := by decide +kernel
theorem d_cPolicy_moved_44 : decode prog_6_method_6_code 44 = .ok (.aload_n 0, 1) := by decide +kernel
theorem d_cPolicy_moved_45 : decode prog_6_method_6_code 45 = .ok (.getfield 43, 3) := by decide +kernel
theorem d_cPolicy_moved_48 : decode prog_6_method_6_code 48 = .ok (.iload 5, 2) := by decide +kernel
theorem d_cPolicy_moved_50 : decode prog_6_method_6_code 50 = .ok (.aaload, 1) := by decide +kernel
theorem d_cPolicy_moved_51 : decode prog_6_method_6_code 51 = .ok (.getfield 86, 3) := by decide +kernel
theorem d_cPolicy_moved_54 : decode prog_6_method_6_code 54 = .ok (.ireturn, 1) := by decide +kernel
theorem d_cPolicy_moved_55 : decode prog_6_method_6_code 55 = .ok (.iinc 5 1, 3) := by decide +kernel
theorem d_cPolicy_moved_58 : decode prog_6_method_6_code 58 = .ok (.goto (-55), 3) := by decide +kernel
theorem d_cPolicy_moved_61 : decode prog_6_method_6_code 61 = .ok (.iload 4, 2) := by decide +kernel
theorem d_cPolicy_moved_63 : decode prog_6_method_6_code 63 = .ok (.ireturn, 1) := by decide +kernel
def cPolicy_moved_L3 (v0_3 : Nat) (v1_3 : Int32) (v2_3 : Int32) (v3_3 : Int32) (v4_3 : Int32) (S_3 : CS) : Nat → Int32 → Option Int32
  | 0, _ => none
  | n + 1, v5_3 => (if (gI S_3 v0_3 8) ≤ v5_3 then some v4_3 else (if inbd v5_3 24 = true then (bd (((v0_3 + 12) + (9 + 4 * txN v5_3))) fun a18 => (bd (gR S_3 a18 0) fun r19 => (if r19 < 15 then (if r19 = 9 then (if inbd v5_3 24 = true then (bd (((v0_3 + 12) + (9 + 4 * txN v5_3))) fun a34 => ((cRule_covers a34 v1_3 v2_3 v3_3 S_3).bind fun q38 => (if q38 = true then (if inbd v5_3 24 = true then (bd (((v0_3 + 12) + (9 + 4 * txN v5_3))) fun a50 => some (gI S_3 a50 11)) else none) else (bd ((v5_3 + 1)) fun a55 => (cPolicy_moved_L3 v0_3 v1_3 v2_3 v3_3 v4_3 S_3 n) a55)))) else none) else (bd ((v5_3 + 1)) fun a55 => (cPolicy_moved_L3 v0_3 v1_3 v2_3 v3_3 v4_3 S_3 n) a55)) else none))) else none))
def cPolicy_moved (k0 : Nat) (x1 : Int32) (x2 : Int32) (x3 : Int32) (x4 : Int32) (S : CS) : Option Int32 := cPolicy_moved_L3 k0 x1 x2 x3 x4 S 600 0
set_option maxHeartbeats 4000000 in
set_option maxRecDepth 100000 in
theorem M_cPolicy_moved {l : Launch} {D : va_G} {cA : Nat → ClassId} {b : Nat} {ad : Nat → Nat} {k0 : Nat} {x1 : Int32} {x2 : Int32} {x3 : Int32} {x4 : Int32} {S : CS} {T : MS × (Nat → Int64)} {rr : Int32} (hk0 : kd k0 = 7) (h : cPolicy_moved k0 x1 x2 x3 x4 S = some rr) : Met l y_cPolicy_moved (Cond.code y_cPolicy_moved prog_6_method_6_code 6 (Option.some Jvm.ClassFile.FieldType.int) :: TW) { frames := 2, cells := 0, slots := 0, locals := 44 } (va_Pc [.ref (b + k0), .int x1, .int x2, .int x3, .int x4] (Rp D cA b ad (S, T))) (Qr D cA b ad (S, T) (some (.int rr))) 0 0 (Ab b) := by
  refine Ct_of (by decide) (Nat.le_of_ble_eq_true rfl) ?_
  intro p e R s m args below meth c ls Q H locs hR hQ hx hb hts hown hml hr hlk hC hX hS hl
  have hRf : R.frames = 2 := by rw [hR]
  have hRl : R.locals = 44 := by rw [hR]
  have hown : s.vm.findClass "TypeGuard$Policy" = some m.cls := hown
  have hl : lv_has ls 6 [(0, .ref (b + k0)), (1, .int x1), (2, .int x2), (3, .int x3), (4, .int x4)] := hl
  rw [cPolicy_moved] at h
  refine lv_iconst (v := 0) hx hb d_cPolicy_moved_0 (by decide) ?_
  refine lv_istore (lv' := [(5, .int 0), (0, .ref (b + k0)), (1, .int x1), (2, .int x2), (3, .int x3), (4, .int x4)]) hx hb d_cPolicy_moved_1 hl (by decide) rfl (fun ls hl => ?_)
  have L3 : ∀ (n3 : Nat) (v5_3 : Int32) (H : Heap) (locs : List Loc) (ls : Array Slot), hp D cA b ad (S, T) H → va_S (Ab b) s.heap H locs → lv_has ls 6 [(0, .ref (b + k0)), (1, .int x1), (2, .int x2), (3, .int x3), (4, .int x4), (5, .int v5_3)] → cPolicy_moved_L3 k0 x1 x2 x3 x4 S n3 v5_3 = some rr → W p l e R s m args below meth c H locs 0 0 Q (F0 m 3 ls []) := by
    intro n3; induction n3 with
    | zero => intro v5_3 H locs ls  hX hS hl h; rw [cPolicy_moved_L3] at h; cases h
    | succ n3 ih3 =>
      intro v5_3 H locs ls  hX hS hl h
      rw [cPolicy_moved_L3] at h
      refine lv_iload hx hb d_cPolicy_moved_3 (lv_at hl 5 rfl) ?_
      refine lv_aload_n hx hb d_cPolicy_moved_5 rfl (lv_at hl 0 rfl) ?_
      refine c_get_7_8 (k := k0) hx hb hts hown hC hX hk0 (hts _ t_205) d_cPolicy_moved_6 ?_
      refine lv_icmp_ge hx hb d_cPolicy_moved_9 (tgt := 61) (by decide) (fun hc => ?_) (fun hc => ?_)
      · rw [if_pos hc] at h
        refine lv_iload hx hb d_cPolicy_moved_61 (lv_at hl 4 rfl) ?_
        obtain rfl := Option.some.inj h
        exact rt_i hQ hx hb hr hX hS hlk d_cPolicy_moved_63
      · rw [if_neg hc] at h
        refine lv_aload_n hx hb d_cPolicy_moved_12 rfl (lv_at hl 0 rfl) ?_
        refine c_get_7_7 (k := k0) hx hb hts hown hC hX hk0 (hts _ t_203) d_cPolicy_moved_13 ?_
        refine lv_iload hx hb d_cPolicy_moved_16 (lv_at hl 5 rfl) ?_
        by_cases hg18 : inbd v5_3 24 = true
        rotate_left; · rw [if_neg hg18] at h; cases h
        rw [if_pos hg18] at h
        refine c_ald_13 (k := (k0 + 12)) hx hb hC hX (kx_7_12 hk0) hg18 d_cPolicy_moved_18 ?_
        obtain ⟨a18, e18, h⟩ := bd_some h
        refine lt_R e18 ?_
        have hka18 := (ke_13 (k := (k0 + 12)) (kx_7_12 hk0) (inbd_lt hg18))
        rw [← e18] at hka18
        refine c_get_14_0N (k := a18) hx hb hts hown hC hX hka18 (va_Nw.use rfl (hC.2.1 _ t_131)) d_cPolicy_moved_19 ?_
        obtain ⟨r19, e19, h⟩ := bd_some h
        refine lt_W e19 ?_
        by_cases hkr19 : r19 < 15
        rotate_left; · rw [if_neg hkr19] at h; cases h
        rw [if_pos hkr19] at h
        refine st_W (i := 9) hx hb hC hS hown (hts _ t_735) d_cPolicy_moved_22 (by decide) ?_
        refine lw_acmpne hx hb (hC.2.2.1) hkr19 (by decide) d_cPolicy_moved_25 (tgt := 55) (by decide) (fun hc => ?_) (fun hc => ?_)
        · rw [if_neg hc] at h
          obtain ⟨a55, e55, h⟩ := bd_some h
          refine lv_iinc (v := a55) (lv' := [(5, .int a55), (0, .ref (b + k0)), (1, .int x1), (2, .int x2), (3, .int x3), (4, .int x4)]) hx hb d_cPolicy_moved_55 hl (k := 5) rfl e55.symm (by decide) rfl (fun ls hl => ?_)
          refine lv_goto hx hb d_cPolicy_moved_58 (tgt := 3) (by decide) ?_
          exact ih3 a55 H locs ls  hX hS (lv_sub hl [1, 2, 3, 4, 5, 0] rfl) h
        · rw [if_pos hc] at h
          refine lv_aload_n hx hb d_cPolicy_moved_28 rfl (lv_at hl 0 rfl) ?_
          refine c_get_7_7 (k := k0) hx hb hts hown hC hX hk0 (hts _ t_203) d_cPolicy_moved_29 ?_
          refine lv_iload hx hb d_cPolicy_moved_32 (lv_at hl 5 rfl) ?_
          by_cases hg34 : inbd v5_3 24 = true
          rotate_left; · rw [if_neg hg34] at h; cases h
          rw [if_pos hg34] at h
          refine c_ald_13 (k := (k0 + 12)) hx hb hC hX (kx_7_12 hk0) hg34 d_cPolicy_moved_34 ?_
          obtain ⟨a34, e34, h⟩ := bd_some h
          refine lt_R e34 ?_
          have hka34 := (ke_13 (k := (k0 + 12)) (kx_7_12 hk0) (inbd_lt hg34))
          rw [← e34] at hka34
          refine lv_iload_n hx hb d_cPolicy_moved_35 rfl (lv_at hl 1 rfl) ?_
          refine lv_iload_n hx hb d_cPolicy_moved_36 rfl (lv_at hl 2 rfl) ?_
          refine lv_iload_n hx hb d_cPolicy_moved_37 rfl (lv_at hl 3 rfl) ?_
          obtain ⟨q38, hc38, h⟩ := Option.bind_eq_some_iff.mp h
          refine ck_V (As := [.int x1, .int x2, .int x3]) (rest := []) (st1 := [.int (bI q38)]) (M_cRule_covers hka34 hc38) t_874 t_875 t_876 t_877 t_6 hx hb hts hown hC hX hS (hrc_c14 hC hX hka34) hml hl.1 ⟨by rw [hRf]; decide, by rw [hRl]; decide⟩ ⟨rfl, rfl⟩ (n := 3) (by decide +kernel) rfl rfl rfl (lv_room (Nat.le_of_ble_eq_true rfl)) d_cPolicy_moved_38 (fun H locs hX hS => ?_)
          refine lz_ifeq hx hb d_cPolicy_moved_41 (tgt := 55) (by decide) (fun hc => ?_) (fun hc => ?_)
          · rw [if_neg hc] at h
            obtain ⟨a55, e55, h⟩ := bd_some h
            refine lv_iinc (v := a55) (lv' := [(5, .int a55), (0, .ref (b + k0)), (1, .int x1), (2, .int x2), (3, .int x3), (4, .int x4)]) hx hb d_cPolicy_moved_55 hl (k := 5) rfl e55.symm (by decide) rfl (fun ls hl => ?_)
            refine lv_goto hx hb d_cPolicy_moved_58 (tgt := 3) (by decide) ?_
            exact ih3 a55 H locs ls  hX hS (lv_sub hl [1, 2, 3, 4, 5, 0] rfl) h
          · rw [if_pos hc] at h
            refine lv_aload_n hx hb d_cPolicy_moved_44 rfl (lv_at hl 0 rfl) ?_
            refine c_get_7_7 (k := k0) hx hb hts hown hC hX hk0 (hts _ t_203) d_cPolicy_moved_45 ?_
            refine lv_iload hx hb d_cPolicy_moved_48 (lv_at hl 5 rfl) ?_
            by_cases hg50 : inbd v5_3 24 = true
            rotate_left; · rw [if_neg hg50] at h; cases h
            rw [if_pos hg50] at h
            refine c_ald_13 (k := (k0 + 12)) hx hb hC hX (kx_7_12 hk0) hg50 d_cPolicy_moved_50 ?_
            obtain ⟨a50, e50, h⟩ := bd_some h
            refine lt_R e50 ?_
            have hka50 := (ke_13 (k := (k0 + 12)) (kx_7_12 hk0) (inbd_lt hg50))
            rw [← e50] at hka50
            refine c_get_14_11N (k := a50) hx hb hts hown hC hX hka50 (va_Nw.use rfl (hC.2.1 _ t_158)) d_cPolicy_moved_51 ?_
            obtain rfl := Option.some.inj h
            exact rt_i hQ hx hb hr hX hS hlk d_cPolicy_moved_54
  exact L3 600 0 H locs ls  hX hS (lv_sub hl [1, 2, 3, 4, 5, 0] rfl) h
abbrev y_cVectorCache_sizeOf : MethodName := ({ cls := "TypeGuard$VectorCache", name := "sizeOf", desc := "(I)I" } : Jvm.MethodName)
theorem d_cVectorCache_sizeOf_0 : decode prog_11_method_3_code 0 = .ok (.iconst 0, 1) := by decide +kernel
theorem d_cVectorCache_sizeOf_1 : decode prog_11_method_3_code 1 = .ok (.istore_n 2, 1) := by decide +kernel
theorem d_cVectorCache_sizeOf_2 : decode prog_11_method_3_code 2 = .ok (.iconst 0, 1) := by decide +kernel
theorem d_cVectorCache_sizeOf_3 : decode prog_11_method_3_code 3 = .ok (.istore_n 3, 1) := by decide +kernel
theorem d_cVectorCache_sizeOf_4 : decode prog_11_method_3_code 4 = .ok (.iload_n 3, 1) := by decide +kernel
theorem d_cVectorCache_sizeOf_5 : decode prog_11_method_3_code 5 = .ok (.aload_n 0, 1) := by decide +kernel
theorem d_cVectorCache_sizeOf_6 : decode prog_11_method_3_code 6 = .ok (.getfield 51, 3) := by decide +kernel
theorem d_cVectorCache_sizeOf_9 : decode prog_11_method_3_code 9 = .ok (.if_icmp .ge 25, 3) := by decide +kernel
theorem d_cVectorCache_sizeOf_12 : decode prog_11_method_3_code 12 = .ok (.aload_n 0, 1) := by decide +kernel
theorem d_cVectorCache_sizeOf_13 : decode prog_11_method_3_code 13 = .ok (.getfield 11, 3) := by decide +kernel
theorem d_cVectorCache_sizeOf_16 : decode prog_11_method_3_code 16 = .ok (.iload_n 3, 1) := by decide +kernel
theorem d_cVectorCache_sizeOf_17 : decode prog_11_method_3_code 17 = .ok (.aaload, 1) := by decide +kernel
theorem d_cVectorCache_sizeOf_18 : decode prog_11_method_3_code 18 = .ok (.getfield 36, 3) := by decide +kernel
theorem d_cVectorCache_sizeOf_21 : decode prog_11_method_3_code 21 = .ok (.iload_n 1, 1) := by decide +kernel
theorem d_cVectorCache_sizeOf_22 : decode prog_11_method_3_code 22 = .ok (.if_icmp .ne 6, 3) := by decide +kernel
theorem d_cVectorCache_sizeOf_25 : decode prog_11_method_3_code 25 = .ok (.iinc 2 1, 3) := by decide +kernel
theorem d_cVectorCache_sizeOf_28 : decode prog_11_method_3_code 28 = .ok (.iinc 3 1, 3) := by decide +kernel
theorem d_cVectorCache_sizeOf_31 : decode prog_11_method_3_code 31 = .ok (.goto (-27), 3) := by decide +kernel
theorem d_cVectorCache_sizeOf_34 : decode prog_11_method_3_code 34 = .ok (.iload_n 2, 1) := by decide +kernel
theorem d_cVectorCache_sizeOf_35 : decode prog_11_method_3_code 35 = .ok (.ireturn, 1) := by decide +kernel
def cVectorCache_sizeOf_L4 (v1_4 : Int32) (S_4 : CS) : Nat → Int32 → Int32 → Option Int32
  | 0, _, _ => none
  | n + 1, v2_4, v3_4 => (if (gI S_4 244 1) ≤ v3_4 then some v2_4 else (if inbd v3_4 6 = true then (bd ((245 + (1 + txN v3_4))) fun a17 => (if (gI S_4 a17 3) = v1_4 then (bd ((v2_4 + 1)) fun a25 => (bd ((v3_4 + 1)) fun a28 => (cVectorCache_sizeOf_L4 v1_4 S_4 n) a25 a28)) else (bd ((v3_4 + 1)) fun a28 => (cVectorCache_sizeOf_L4 v1_4 S_4 n) v2_4 a28))) else none))
def cVectorCache_sizeOf (x1 : Int32) (S : CS) : Option Int32 := cVectorCache_sizeOf_L4 x1 S 600 0 0
set_option maxHeartbeats 4000000 in
set_option maxRecDepth 100000 in
theorem M_cVectorCache_sizeOf {l : Launch} {D : va_G} {cA : Nat → ClassId} {b : Nat} {ad : Nat → Nat} {x1 : Int32} {S : CS} {T : MS × (Nat → Int64)} {rr : Int32}  (h : cVectorCache_sizeOf x1 S = some rr) : Met l y_cVectorCache_sizeOf (Cond.code y_cVectorCache_sizeOf prog_11_method_3_code 4 (Option.some Jvm.ClassFile.FieldType.int) :: TW) { frames := 0, cells := 0, slots := 0, locals := 0 } (va_Pc [.ref (b + 244), .int x1] (Rp D cA b ad (S, T))) (Qr D cA b ad (S, T) (some (.int rr))) 0 0 (Ab b) := by
  refine Ct_of (by decide) (Nat.le_of_ble_eq_true rfl) ?_
  intro p e R s m args below meth c ls Q H locs hR hQ hx hb hts hown hml hr hlk hC hX hS hl
  have hRf : R.frames = 0 := by rw [hR]
  have hRl : R.locals = 0 := by rw [hR]
  have hown : s.vm.findClass "TypeGuard$VectorCache" = some m.cls := hown
  have hl : lv_has ls 4 [(0, .ref (b + 244)), (1, .int x1)] := hl
  rw [cVectorCache_sizeOf] at h
  refine lv_iconst (v := 0) hx hb d_cVectorCache_sizeOf_0 (by decide) ?_
  refine lv_istore_n (lv' := [(2, .int 0), (0, .ref (b + 244)), (1, .int x1)]) hx hb d_cVectorCache_sizeOf_1 rfl hl (by decide) rfl (fun ls hl => ?_)
  refine lv_iconst (v := 0) hx hb d_cVectorCache_sizeOf_2 (by decide) ?_
  refine lv_istore_n (lv' := [(3, .int 0), (2, .int 0), (0, .ref (b + 244)), (1, .int x1)]) hx hb d_cVectorCache_sizeOf_3 rfl hl (by decide) rfl (fun ls hl => ?_)
  have L4 : ∀ (n4 : Nat) (v2_4 : Int32) (v3_4 : Int32) (H : Heap) (locs : List Loc) (ls : Array Slot), hp D cA b ad (S, T) H → va_S (Ab b) s.heap H locs → lv_has ls 4 [(0, .ref (b + 244)), (1, .int x1), (2, .int v2_4), (3, .int v3_4)] → cVectorCache_sizeOf_L4 x1 S n4 v2_4 v3_4 = some rr → W p l e R s m args below meth c H locs 0 0 Q (F0 m 4 ls []) := by
    intro n4; induction n4 with
    | zero => intro v2_4 v3_4 H locs ls  hX hS hl h; rw [cVectorCache_sizeOf_L4] at h; cases h
    | succ n4 ih4 =>
      intro v2_4 v3_4 H locs ls  hX hS hl h
      rw [cVectorCache_sizeOf_L4] at h
      refine lv_iload_n hx hb d_cVectorCache_sizeOf_4 rfl (lv_at hl 3 rfl) ?_
      refine lv_aload_n hx hb d_cVectorCache_sizeOf_5 rfl (lv_at hl 0 rfl) ?_
      refine c_get_20_1 hx hb hts hown hC hX (by rfl) (hts _ t_294) d_cVectorCache_sizeOf_6 ?_
      refine lv_icmp_ge hx hb d_cVectorCache_sizeOf_9 (tgt := 34) (by decide) (fun hc => ?_) (fun hc => ?_)
      · rw [if_pos hc] at h
        refine lv_iload_n hx hb d_cVectorCache_sizeOf_34 rfl (lv_at hl 2 rfl) ?_
        obtain rfl := Option.some.inj h
        exact rt_i hQ hx hb hr hX hS hlk d_cVectorCache_sizeOf_35
      · rw [if_neg hc] at h
        refine lv_aload_n hx hb d_cVectorCache_sizeOf_12 rfl (lv_at hl 0 rfl) ?_
        refine c_get_20_0 hx hb hts hown hC hX (by rfl) (hts _ t_293) d_cVectorCache_sizeOf_13 ?_
        refine lv_iload_n hx hb d_cVectorCache_sizeOf_16 rfl (lv_at hl 3 rfl) ?_
        by_cases hg17 : inbd v3_4 6 = true
        rotate_left; · rw [if_neg hg17] at h; cases h
        rw [if_pos hg17] at h
        refine c_ald_21 (k := 245) hx hb hC hX (by rfl) hg17 d_cVectorCache_sizeOf_17 ?_
        obtain ⟨a17, e17, h⟩ := bd_some h
        refine lt_R e17 ?_
        have hka17 := (ke_21 (k := 245) (by rfl) (inbd_lt hg17))
        rw [← e17] at hka17
        refine c_get_22_3N (k := a17) hx hb hts hown hC hX hka17 (va_Nw.use rfl (hC.2.1 _ t_270)) d_cVectorCache_sizeOf_18 ?_
        refine lv_iload_n hx hb d_cVectorCache_sizeOf_21 rfl (lv_at hl 1 rfl) ?_
        refine lv_icmp_ne hx hb d_cVectorCache_sizeOf_22 (tgt := 28) (by decide) (fun hc => ?_) (fun hc => ?_)
        · rw [if_neg hc] at h
          obtain ⟨a28, e28, h⟩ := bd_some h
          refine lv_iinc (v := a28) (lv' := [(3, .int a28), (0, .ref (b + 244)), (1, .int x1), (2, .int v2_4)]) hx hb d_cVectorCache_sizeOf_28 hl (k := 3) rfl e28.symm (by decide) rfl (fun ls hl => ?_)
          refine lv_goto hx hb d_cVectorCache_sizeOf_31 (tgt := 4) (by decide) ?_
          exact ih4 v2_4 a28 H locs ls  hX hS (lv_sub hl [1, 2, 3, 0] rfl) h
        · rw [if_pos hc] at h
          obtain ⟨a25, e25, h⟩ := bd_some h
          refine lv_iinc (v := a25) (lv' := [(2, .int a25), (0, .ref (b + 244)), (1, .int x1), (3, .int v3_4)]) hx hb d_cVectorCache_sizeOf_25 hl (k := 2) rfl e25.symm (by decide) rfl (fun ls hl => ?_)
          obtain ⟨a28, e28, h⟩ := bd_some h
          refine lv_iinc (v := a28) (lv' := [(3, .int a28), (2, .int a25), (0, .ref (b + 244)), (1, .int x1)]) hx hb d_cVectorCache_sizeOf_28 hl (k := 3) rfl e28.symm (by decide) rfl (fun ls hl => ?_)
          refine lv_goto hx hb d_cVectorCache_sizeOf_31 (tgt := 4) (by decide) ?_
          exact ih4 a25 a28 H locs ls  hX hS (lv_sub hl [2, 3, 1, 0] rfl) h
  exact L4 600 0 0 H locs ls  hX hS (lv_sub hl [2, 3, 1, 0] rfl) h
abbrev y_cG_cache : MethodName := ({ cls := "TypeGuard", name := "cache", desc := "(I)I" } : Jvm.MethodName)
theorem d_cG_cache_0 : decode prog_1_method_15_code 0 = .ok (.iload_n 1, 1) := by decide +kernel
theorem d_cG_cache_1 : decode prog_1_method_15_code 1 = .ok (.tableswitch 79 0 4 #[35, 43, 51, 59, 71], 35) := by decide +kernel
theorem d_cG_cache_36 : decode prog_1_method_15_code 36 = .ok (.aload_n 0, 1) := by decide +kernel
theorem d_cG_cache_37 : decode prog_1_method_15_code 37 = .ok (.getfield 40, 3) := by decide +kernel
theorem d_cG_cache_40 : decode prog_1_method_15_code 40 = .ok (.getfield 166, 3) := by decide +kernel
theorem d_cG_cache_43 : decode prog_1_method_15_code 43 = .ok (.ireturn, 1) := by decide +kernel
theorem d_cG_cache_44 : decode prog_1_method_15_code 44 = .ok (.aload_n 0, 1) := by decide +kernel
theorem d_cG_cache_45 : decode prog_1_method_15_code 45 = .ok (.getfield 40, 3) := by decide +kernel
theorem d_cG_cache_48 : decode prog_1_method_15_code 48 = .ok (.getfield 169, 3) := by decide +kernel
theorem d_cG_cache_51 : decode prog_1_method_15_code 51 = .ok (.ireturn, 1) := by decide +kernel
theorem d_cG_cache_52 : decode prog_1_method_15_code 52 = .ok (.aload_n 0, 1) := by decide +kernel
theorem d_cG_cache_53 : decode prog_1_method_15_code 53 = .ok (.getfield 40, 3) := by decide +kernel
theorem d_cG_cache_56 : decode prog_1_method_15_code 56 = .ok (.getfield 172, 3) := by decide +kernel
theorem d_cG_cache_59 : decode prog_1_method_15_code 59 = .ok (.ireturn, 1) := by decide +kernel
theorem d_cG_cache_60 : decode prog_1_method_15_code 60 = .ok (.aload_n 0, 1) := by decide +kernel
theorem d_cG_cache_61 : decode prog_1_method_15_code 61 = .ok (.getfield 40, 3) := by decide +kernel
theorem d_cG_cache_64 : decode prog_1_method_15_code 64 = .ok (.aload_n 0, 1) := by decide +kernel
theorem d_cG_cache_65 : decode prog_1_method_15_code 65 = .ok (.getfield 70, 3) := by decide +kernel
theorem d_cG_cache_68 : decode prog_1_method_15_code 68 = .ok (.invokevirtual 173, 3) := by decide +kernel
theorem d_cG_cache_71 : decode prog_1_method_15_code 71 = .ok (.ireturn, 1) := by decide +kernel
theorem d_cG_cache_72 : decode prog_1_method_15_code 72 = .ok (.aload_n 0, 1) := by decide +kernel
theorem d_cG_cache_73 : decode prog_1_method_15_code 73 = .ok (.getfield 47, 3) := by decide +kernel
theorem d_cG_cache_76 : decode prog_1_method_15_code 76 = .ok (.getfield 176, 3) := by decide +kernel
theorem d_cG_cache_79 : decode prog_1_method_15_code 79 = .ok (.ireturn, 1) := by decide +kernel
theorem d_cG_cache_80 : decode prog_1_method_15_code 80 = .ok (.iconst (-1), 1) := by decide +kernel
theorem d_cG_cache_81 : decode prog_1_method_15_code 81 = .ok (.ireturn, 1) := by decide +kernel
def cG_cache (x1 : Int32) (S : CS) : Option Int32 := (if x1 = 0 then some (gI S 244 3) else (if x1 = 1 then some (gI S 244 4) else (if x1 = 2 then some (gI S 244 1) else (if x1 = 3 then ((cVectorCache_sizeOf (gI S 0 4) S).bind fun q68 => some q68) else (if x1 = 4 then some (gI S 252 1) else some (-1))))))
set_option maxHeartbeats 4000000 in
set_option maxRecDepth 100000 in
theorem M_cG_cache {l : Launch} {D : va_G} {cA : Nat → ClassId} {b : Nat} {ad : Nat → Nat} {x1 : Int32} {S : CS} {T : MS × (Nat → Int64)} {rr : Int32}  (h : cG_cache x1 S = some rr) : Met l y_cG_cache (Cond.code y_cG_cache prog_1_method_15_code 2 (Option.some Jvm.ClassFile.FieldType.int) :: TW) { frames := 1, cells := 0, slots := 0, locals := 23 } (va_Pc [.ref (b + 0), .int x1] (Rp D cA b ad (S, T))) (Qr D cA b ad (S, T) (some (.int rr))) 0 0 (Ab b) := by
  refine Ct_of (by decide) (Nat.le_of_ble_eq_true rfl) ?_
  intro p e R s m args below meth c ls Q H locs hR hQ hx hb hts hown hml hr hlk hC hX hS hl
  have hRf : R.frames = 1 := by rw [hR]
  have hRl : R.locals = 23 := by rw [hR]
  have hown : s.vm.findClass "TypeGuard" = some m.cls := hown
  have hl : lv_has ls 2 [(0, .ref (b + 0)), (1, .int x1)] := hl
  rw [cG_cache] at h
  refine lv_iload_n hx hb d_cG_cache_0 rfl (lv_at hl 1 rfl) ?_
  by_cases hc0 : x1 = 0
  · rw [if_pos hc0] at h
    refine tb_in (k := 0) hx hb d_cG_cache_1 hc0 (off := 35) (by decide) (by decide) (by decide) (tgt := 36) (by decide) ?_
    refine lv_aload_n hx hb d_cG_cache_36 rfl (lv_at hl 0 rfl) ?_
    refine c_get_0_8 hx hb hts hown hC hX (by rfl) (hts _ t_336) d_cG_cache_37 ?_
    refine c_get_20_3N hx hb hts hown hC hX (by rfl) (va_Nw.use rfl (hC.2.1 _ t_298)) d_cG_cache_40 ?_
    obtain rfl := Option.some.inj h
    exact rt_i hQ hx hb hr hX hS hlk d_cG_cache_43
  rw [if_neg hc0] at h
  by_cases hc1 : x1 = 1
  · rw [if_pos hc1] at h
    refine tb_in (k := 1) hx hb d_cG_cache_1 hc1 (off := 43) (by decide) (by decide) (by decide) (tgt := 44) (by decide) ?_
    refine lv_aload_n hx hb d_cG_cache_44 rfl (lv_at hl 0 rfl) ?_
    refine c_get_0_8 hx hb hts hown hC hX (by rfl) (hts _ t_336) d_cG_cache_45 ?_
    refine c_get_20_4N hx hb hts hown hC hX (by rfl) (va_Nw.use rfl (hC.2.1 _ t_300)) d_cG_cache_48 ?_
    obtain rfl := Option.some.inj h
    exact rt_i hQ hx hb hr hX hS hlk d_cG_cache_51
  rw [if_neg hc1] at h
  by_cases hc2 : x1 = 2
  · rw [if_pos hc2] at h
    refine tb_in (k := 2) hx hb d_cG_cache_1 hc2 (off := 51) (by decide) (by decide) (by decide) (tgt := 52) (by decide) ?_
    refine lv_aload_n hx hb d_cG_cache_52 rfl (lv_at hl 0 rfl) ?_
    refine c_get_0_8 hx hb hts hown hC hX (by rfl) (hts _ t_336) d_cG_cache_53 ?_
    refine c_get_20_1N hx hb hts hown hC hX (by rfl) (va_Nw.use rfl (hC.2.1 _ t_295)) d_cG_cache_56 ?_
    obtain rfl := Option.some.inj h
    exact rt_i hQ hx hb hr hX hS hlk d_cG_cache_59
  rw [if_neg hc2] at h
  by_cases hc3 : x1 = 3
  · rw [if_pos hc3] at h
    refine tb_in (k := 3) hx hb d_cG_cache_1 hc3 (off := 59) (by decide) (by decide) (by decide) (tgt := 60) (by decide) ?_
    refine lv_aload_n hx hb d_cG_cache_60 rfl (lv_at hl 0 rfl) ?_
    refine c_get_0_8 hx hb hts hown hC hX (by rfl) (hts _ t_336) d_cG_cache_61 ?_
    refine lv_aload_n hx hb d_cG_cache_64 rfl (lv_at hl 0 rfl) ?_
    refine c_get_0_4 hx hb hts hown hC hX (by rfl) (hts _ t_332) d_cG_cache_65 ?_
    obtain ⟨q68, hc68, h⟩ := Option.bind_eq_some_iff.mp h
    refine ck_V (As := [.int (gI S 0 4)]) (rest := []) (st1 := [.int q68]) (M_cVectorCache_sizeOf  hc68) t_404 t_405 t_406 t_407 t_10 hx hb hts hown hC hX hS (hrc_c20 hC hX (by rfl)) hml hl.1 ⟨by rw [hRf]; decide, by rw [hRl]; decide⟩ ⟨rfl, rfl⟩ (n := 1) (by decide +kernel) rfl rfl rfl (lv_room (Nat.le_of_ble_eq_true rfl)) d_cG_cache_68 (fun H locs hX hS => ?_)
    obtain rfl := Option.some.inj h
    exact rt_i hQ hx hb hr hX hS hlk d_cG_cache_71
  rw [if_neg hc3] at h
  by_cases hc4 : x1 = 4
  · rw [if_pos hc4] at h
    refine tb_in (k := 4) hx hb d_cG_cache_1 hc4 (off := 71) (by decide) (by decide) (by decide) (tgt := 72) (by decide) ?_
    refine lv_aload_n hx hb d_cG_cache_72 rfl (lv_at hl 0 rfl) ?_
    refine c_get_0_9 hx hb hts hown hC hX (by rfl) (hts _ t_337) d_cG_cache_73 ?_
    refine c_get_23_1N hx hb hts hown hC hX (by rfl) (va_Nw.use rfl (hC.2.1 _ t_322)) d_cG_cache_76 ?_
    obtain rfl := Option.some.inj h
    exact rt_i hQ hx hb hr hX hS hlk d_cG_cache_79
  rw [if_neg hc4] at h
  refine tb_out hx hb d_cG_cache_1 (by have n0 := ni_ne (a := 0) (by decide) hc0; have n1 := ni_ne (a := 1) (by decide) hc1; have n2 := ni_ne (a := 2) (by decide) hc2; have n3 := ni_ne (a := 3) (by decide) hc3; have n4 := ni_ne (a := 4) (by decide) hc4; omega) (tgt := 80) (by decide) ?_
  refine lv_iconst (v := (-1)) hx hb d_cG_cache_80 (by decide) ?_
  obtain rfl := Option.some.inj h
  exact rt_i hQ hx hb hr hX hS hlk d_cG_cache_81
abbrev y_cNoteLog_part : MethodName := ({ cls := "TypeGuard$NoteLog", name := "part", desc := "(II)I" } : Jvm.MethodName)
theorem d_cNoteLog_part_0 : decode prog_5_method_3_code 0 = .ok (.iload_n 1, 1) := by decide +kernel
theorem d_cNoteLog_part_1 : decode prog_5_method_3_code 1 = .ok (.ifCond .lt 26, 3) := by decide +kernel
theorem d_cNoteLog_part_4 : decode prog_5_method_3_code 4 = .ok (.iload_n 1, 1) := by decide +kernel
theorem d_cNoteLog_part_5 : decode prog_5_method_3_code 5 = .ok (.bipush 8, 2) := by decide +kernel
theorem d_cNoteLog_part_7 : decode prog_5_method_3_code 7 = .ok (.if_icmp .ge 20, 3) := by decide +kernel
theorem d_cNoteLog_part_10 : decode prog_5_method_3_code 10 = .ok (.iload_n 1, 1) := by decide +kernel
theorem d_cNoteLog_part_11 : decode prog_5_method_3_code 11 = .ok (.aload_n 0, 1) := by decide +kernel
theorem d_cNoteLog_part_12 : decode prog_5_method_3_code 12 = .ok (.getfield 16, 3) := by decide +kernel
theorem d_cNoteLog_part_15 : decode prog_5_method_3_code 15 = .ok (.if_icmp .ge 12, 3) := by decide +kernel
theorem d_cNoteLog_part_18 : decode prog_5_method_3_code 18 = .ok (.iload_n 2, 1) := by decide +kernel
theorem d_cNoteLog_part_19 : decode prog_5_method_3_code 19 = .ok (.ifCond .lt 8, 3) := by decide +kernel
theorem d_cNoteLog_part_22 : decode prog_5_method_3_code 22 = .ok (.iload_n 2, 1) := by decide +kernel
theorem d_cNoteLog_part_23 : decode prog_5_method_3_code 23 = .ok (.iconst 5, 1) := by decide +kernel
theorem d_cNoteLog_part_24 : decode prog_5_method_3_code 24 = .ok (.if_icmp .lt 5, 3) := by decide +kernel
theorem d_cNoteLog_part_27 : decode prog_5_method_3_code 27 = .ok (.iconst (-1), 1) := by decide +kernel
theorem d_cNoteLog_part_28 : decode prog_5_method_3_code 28 = .ok (.ireturn, 1) := by decide +kernel
theorem d_cNoteLog_part_29 : decode prog_5_method_3_code 29 = .ok (.aload_n 0, 1) := by decide +kernel
theorem d_cNoteLog_part_30 : decode prog_5_method_3_code 30 = .ok (.getfield 11, 3) := by decide +kernel
theorem d_cNoteLog_part_33 : decode prog_5_method_3_code 33 = .ok (.aload_n 0, 1) := by decide +kernel
theorem d_cNoteLog_part_34 : decode prog_5_method_3_code 34 = .ok (.getfield 16, 3) := by decide +kernel
theorem d_cNoteLog_part_37 : decode prog_5_method_3_code 37 = .ok (.iconst 1, 1) := by decide +kernel
theorem d_cNoteLog_part_38 : decode prog_5_method_3_code 38 = .ok (.isub, 1) := by decide +kernel
theorem d_cNoteLog_part_39 : decode prog_5_method_3_code 39 = .ok (.iload_n 1, 1) := by decide +kernel
theorem d_cNoteLog_part_40 : decode prog_5_method_3_code 40 = .ok (.isub, 1) := by decide +kernel
theorem d_cNoteLog_part_41 : decode prog_5_method_3_code 41 = .ok (.bipush 8, 2) := by decide +kernel
theorem d_cNoteLog_part_43 : decode prog_5_method_3_code 43 = .ok (.invokestatic 20, 3) := by decide +kernel
theorem d_cNoteLog_part_46 : decode prog_5_method_3_code 46 = .ok (.aaload, 1) := by decide +kernel
theorem d_cNoteLog_part_47 : decode prog_5_method_3_code 47 = .ok (.iload_n 2, 1) := by decide +kernel
theorem d_cNoteLog_part_48 : decode prog_5_method_3_code 48 = .ok (.iaload, 1) := by decide +kernel
theorem d_cNoteLog_part_49 : decode prog_5_method_3_code 49 = .ok (.ireturn, 1) := by decide +kernel
def cNoteLog_part (x1 : Int32) (x2 : Int32) (S : CS) : Option Int32 := (if x1 < 0 then some (-1) else (if 8 ≤ x1 then some (-1) else (if (gI S 252 1) ≤ x1 then some (-1) else (if x2 < 0 then some (-1) else (if x2 < 5 then ((jMath_floorMod2 (((gI S 252 1) - 1) - x1)).bind fun q43 => (if inbd q43 8 = true then (bd ((253 + (1 + txN q43))) fun a46 => (if inbd x2 5 = true then some (gI S a46 (txN x2)) else none)) else none)) else some (-1))))))
set_option maxHeartbeats 4000000 in
set_option maxRecDepth 100000 in
theorem M_cNoteLog_part {l : Launch} {D : va_G} {cA : Nat → ClassId} {b : Nat} {ad : Nat → Nat} {x1 : Int32} {x2 : Int32} {S : CS} {T : MS × (Nat → Int64)} {rr : Int32}  (h : cNoteLog_part x1 x2 S = some rr) : Met l y_cNoteLog_part (Cond.code y_cNoteLog_part prog_5_method_3_code 3 (Option.some Jvm.ClassFile.FieldType.int) :: TW) { frames := 1, cells := 0, slots := 0, locals := 22 } (va_Pc [.ref (b + 252), .int x1, .int x2] (Rp D cA b ad (S, T))) (Qr D cA b ad (S, T) (some (.int rr))) 0 0 (Ab b) := by
  refine Ct_of (by decide) (Nat.le_of_ble_eq_true rfl) ?_
  intro p e R s m args below meth c ls Q H locs hR hQ hx hb hts hown hml hr hlk hC hX hS hl
  have hRf : R.frames = 1 := by rw [hR]
  have hRl : R.locals = 22 := by rw [hR]
  have hown : s.vm.findClass "TypeGuard$NoteLog" = some m.cls := hown
  have hl : lv_has ls 3 [(0, .ref (b + 252)), (1, .int x1), (2, .int x2)] := hl
  rw [cNoteLog_part] at h
  refine lv_iload_n hx hb d_cNoteLog_part_0 rfl (lv_at hl 1 rfl) ?_
  refine lv_if_lt hx hb d_cNoteLog_part_1 (tgt := 27) (by decide) (fun hc => ?_) (fun hc => ?_)
  · rw [if_pos hc] at h
    refine lv_iconst (v := (-1)) hx hb d_cNoteLog_part_27 (by decide) ?_
    obtain rfl := Option.some.inj h
    exact rt_i hQ hx hb hr hX hS hlk d_cNoteLog_part_28
  · rw [if_neg hc] at h
    refine lv_iload_n hx hb d_cNoteLog_part_4 rfl (lv_at hl 1 rfl) ?_
    refine lv_bipush (v := 8) hx hb d_cNoteLog_part_5 (by decide) ?_
    refine lv_icmp_ge hx hb d_cNoteLog_part_7 (tgt := 27) (by decide) (fun hc => ?_) (fun hc => ?_)
    · rw [if_pos hc] at h
      refine lv_iconst (v := (-1)) hx hb d_cNoteLog_part_27 (by decide) ?_
      obtain rfl := Option.some.inj h
      exact rt_i hQ hx hb hr hX hS hlk d_cNoteLog_part_28
    · rw [if_neg hc] at h
      refine lv_iload_n hx hb d_cNoteLog_part_10 rfl (lv_at hl 1 rfl) ?_
      refine lv_aload_n hx hb d_cNoteLog_part_11 rfl (lv_at hl 0 rfl) ?_
      refine c_get_23_1 hx hb hts hown hC hX (by rfl) (hts _ t_321) d_cNoteLog_part_12 ?_
      refine lv_icmp_ge hx hb d_cNoteLog_part_15 (tgt := 27) (by decide) (fun hc => ?_) (fun hc => ?_)
      · rw [if_pos hc] at h
        refine lv_iconst (v := (-1)) hx hb d_cNoteLog_part_27 (by decide) ?_
        obtain rfl := Option.some.inj h
        exact rt_i hQ hx hb hr hX hS hlk d_cNoteLog_part_28
      · rw [if_neg hc] at h
        refine lv_iload_n hx hb d_cNoteLog_part_18 rfl (lv_at hl 2 rfl) ?_
        refine lv_if_lt hx hb d_cNoteLog_part_19 (tgt := 27) (by decide) (fun hc => ?_) (fun hc => ?_)
        · rw [if_pos hc] at h
          refine lv_iconst (v := (-1)) hx hb d_cNoteLog_part_27 (by decide) ?_
          obtain rfl := Option.some.inj h
          exact rt_i hQ hx hb hr hX hS hlk d_cNoteLog_part_28
        · rw [if_neg hc] at h
          refine lv_iload_n hx hb d_cNoteLog_part_22 rfl (lv_at hl 2 rfl) ?_
          refine lv_iconst (v := 5) hx hb d_cNoteLog_part_23 (by decide) ?_
          refine lv_icmp_lt hx hb d_cNoteLog_part_24 (tgt := 29) (by decide) (fun hc => ?_) (fun hc => ?_)
          · rw [if_pos hc] at h
            refine lv_aload_n hx hb d_cNoteLog_part_29 rfl (lv_at hl 0 rfl) ?_
            refine c_get_23_0 hx hb hts hown hC hX (by rfl) (hts _ t_320) d_cNoteLog_part_30 ?_
            refine lv_aload_n hx hb d_cNoteLog_part_33 rfl (lv_at hl 0 rfl) ?_
            refine c_get_23_1 hx hb hts hown hC hX (by rfl) (hts _ t_321) d_cNoteLog_part_34 ?_
            refine lv_iconst (v := 1) hx hb d_cNoteLog_part_37 (by decide) ?_
            refine lv_isub hx hb d_cNoteLog_part_38 ?_
            refine lv_iload_n hx hb d_cNoteLog_part_39 rfl (lv_at hl 1 rfl) ?_
            refine lv_isub hx hb d_cNoteLog_part_40 ?_
            refine lv_bipush (v := 8) hx hb d_cNoteLog_part_41 (by decide) ?_
            obtain ⟨q43, hc43, h⟩ := Option.bind_eq_some_iff.mp h
            refine ck_S (As := [.int (((gI S 252 1) - 1) - x1), .int 8]) (rest := [.ref (b + 253)]) (st1 := [.int q43, .ref (b + 253)]) (M_jMath_floorMod2  hc43) t_416 t_417 t_418 t_16 hx hb hts hown hC hX hS  hml hl.1 ⟨by rw [hRf]; decide, by rw [hRl]; decide⟩ ⟨rfl, rfl⟩ (n := 2) (by decide +kernel) rfl rfl rfl (lv_room (Nat.le_of_ble_eq_true rfl)) d_cNoteLog_part_43 (fun H locs hX hS => ?_)
            by_cases hg46 : inbd q43 8 = true
            rotate_left; · rw [if_neg hg46] at h; cases h
            rw [if_pos hg46] at h
            refine c_ald_24 (k := 253) hx hb hC hX (by rfl) hg46 d_cNoteLog_part_46 ?_
            obtain ⟨a46, e46, h⟩ := bd_some h
            refine lt_R e46 ?_
            have hka46 := (ke_24 (k := 253) (by rfl) (inbd_lt hg46))
            rw [← e46] at hka46
            refine lv_iload_n hx hb d_cNoteLog_part_47 rfl (lv_at hl 2 rfl) ?_
            by_cases hg48 : inbd x2 5 = true
            rotate_left; · rw [if_neg hg48] at h; cases h
            rw [if_pos hg48] at h
            refine c_ald_25 (k := a46) hx hb hC hX hka46 hg48 d_cNoteLog_part_48 ?_
            obtain rfl := Option.some.inj h
            exact rt_i hQ hx hb hr hX hS hlk d_cNoteLog_part_49
          · rw [if_neg hc] at h
            refine lv_iconst (v := (-1)) hx hb d_cNoteLog_part_27 (by decide) ?_
            obtain rfl := Option.some.inj h
            exact rt_i hQ hx hb hr hX hS hlk d_cNoteLog_part_28
abbrev y_cG_note : MethodName := ({ cls := "TypeGuard", name := "note", desc := "(II)I" } : Jvm.MethodName)
theorem d_cG_note_0 : decode prog_1_method_16_code 0 = .ok (.aload_n 0, 1) := by decide +kernel
theorem d_cG_note_1 : decode prog_1_method_16_code 1 = .ok (.getfield 47, 3) := by decide +kernel
theorem d_cG_note_4 : decode prog_1_method_16_code 4 = .ok (.iload_n 1, 1) := by decide +kernel
theorem d_cG_note_5 : decode prog_1_method_16_code 5 = .ok (.iload_n 2, 1) := by decide +kernel
theorem d_cG_note_6 : decode prog_1_method_16_code 6 = .ok (.invokevirtual 179, 3) := by decide +kernel
theorem d_cG_note_9 : decode prog_1_method_16_code 9 = .ok (.ireturn, 1) := by decide +kernel
def cG_note (x1 : Int32) (x2 : Int32) (S : CS) : Option Int32 := ((cNoteLog_part x1 x2 S).bind fun q6 => some q6)
set_option maxHeartbeats 4000000 in
set_option maxRecDepth 100000 in
theorem M_cG_note {l : Launch} {D : va_G} {cA : Nat → ClassId} {b : Nat} {ad : Nat → Nat} {x1 : Int32} {x2 : Int32} {S : CS} {T : MS × (Nat → Int64)} {rr : Int32}  (h : cG_note x1 x2 S = some rr) : Met l y_cG_note (Cond.code y_cG_note prog_1_method_16_code 3 (Option.some Jvm.ClassFile.FieldType.int) :: TW) { frames := 2, cells := 0, slots := 0, locals := 44 } (va_Pc [.ref (b + 0), .int x1, .int x2] (Rp D cA b ad (S, T))) (Qr D cA b ad (S, T) (some (.int rr))) 0 0 (Ab b) := by
  refine Ct_of (by decide) (Nat.le_of_ble_eq_true rfl) ?_
  intro p e R s m args below meth c ls Q H locs hR hQ hx hb hts hown hml hr hlk hC hX hS hl
  have hRf : R.frames = 2 := by rw [hR]
  have hRl : R.locals = 44 := by rw [hR]
  have hown : s.vm.findClass "TypeGuard" = some m.cls := hown
  have hl : lv_has ls 3 [(0, .ref (b + 0)), (1, .int x1), (2, .int x2)] := hl
  rw [cG_note] at h
  refine lv_aload_n hx hb d_cG_note_0 rfl (lv_at hl 0 rfl) ?_
  refine c_get_0_9 hx hb hts hown hC hX (by rfl) (hts _ t_337) d_cG_note_1 ?_
  refine lv_iload_n hx hb d_cG_note_4 rfl (lv_at hl 1 rfl) ?_
  refine lv_iload_n hx hb d_cG_note_5 rfl (lv_at hl 2 rfl) ?_
  obtain ⟨q6, hc6, h⟩ := Option.bind_eq_some_iff.mp h
  refine ck_V (As := [.int x1, .int x2]) (rest := []) (st1 := [.int q6]) (M_cNoteLog_part  hc6) t_412 t_413 t_414 t_415 t_12 hx hb hts hown hC hX hS (hrc_c23 hC hX (by rfl)) hml hl.1 ⟨by rw [hRf]; decide, by rw [hRl]; decide⟩ ⟨rfl, rfl⟩ (n := 2) (by decide +kernel) rfl rfl rfl (lv_room (Nat.le_of_ble_eq_true rfl)) d_cG_note_6 (fun H locs hX hS => ?_)
  obtain rfl := Option.some.inj h
  exact rt_i hQ hx hb hr hX hS hlk d_cG_note_9
