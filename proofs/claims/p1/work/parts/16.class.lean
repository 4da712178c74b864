abbrev y_cG_load : MethodName := ({ cls := "TypeGuard", name := "load", desc := "()I" } : Jvm.MethodName)
theorem d_cG_load_0 : decode prog_1_method_3_code 0 = .ok (.aload_n 0, 1) := by decide +kernel
theorem d_cG_load_1 : decode prog_1_method_3_code 1 = .ok (.getfield 16, 3) := by decide +kernel
theorem d_cG_load_4 : decode prog_1_method_3_code 4 = .ok (.aload_n 0, 1) := by decide +kernel
theorem d_cG_load_5 : decode prog_1_method_3_code 5 = .ok (.getfield 9, 3) := by decide +kernel
theorem d_cG_load_8 : decode prog_1_method_3_code 8 = .ok (.aload_n 0, 1) := by decide +kernel
theorem d_cG_load_9 : decode prog_1_method_3_code 9 = .ok (.getfield 51, 3) := by decide +kernel
theorem d_cG_load_12 : decode prog_1_method_3_code 12 = .ok (.invokevirtual 59, 3) := by decide +kernel
theorem d_cG_load_15 : decode prog_1_method_3_code 15 = .ok (.istore_n 1, 1) := by decide +kernel
theorem d_cG_load_16 : decode prog_1_method_3_code 16 = .ok (.aload_n 0, 1) := by decide +kernel
theorem d_cG_load_17 : decode prog_1_method_3_code 17 = .ok (.iconst 0, 1) := by decide +kernel
theorem d_cG_load_18 : decode prog_1_method_3_code 18 = .ok (.putfield 51, 3) := by decide +kernel
theorem d_cG_load_21 : decode prog_1_method_3_code 21 = .ok (.iload_n 1, 1) := by decide +kernel
theorem d_cG_load_22 : decode prog_1_method_3_code 22 = .ok (.ifCond .ne 11, 3) := by decide +kernel
theorem d_cG_load_25 : decode prog_1_method_3_code 25 = .ok (.new 63, 3) := by decide +kernel
theorem d_cG_load_28 : decode prog_1_method_3_code 28 = .ok (.dup, 1) := by decide +kernel
theorem d_cG_load_29 : decode prog_1_method_3_code 29 = .ok (.invokespecial 65, 3) := by decide +kernel
theorem d_cG_load_32 : decode prog_1_method_3_code 32 = .ok (.athrow, 1) := by decide +kernel
theorem d_cG_load_33 : decode prog_1_method_3_code 33 = .ok (.aload_n 0, 1) := by decide +kernel
theorem d_cG_load_34 : decode prog_1_method_3_code 34 = .ok (.aload_n 0, 1) := by decide +kernel
theorem d_cG_load_35 : decode prog_1_method_3_code 35 = .ok (.getfield 16, 3) := by decide +kernel
theorem d_cG_load_38 : decode prog_1_method_3_code 38 = .ok (.aload_n 0, 1) := by decide +kernel
theorem d_cG_load_39 : decode prog_1_method_3_code 39 = .ok (.getfield 23, 3) := by decide +kernel
theorem d_cG_load_42 : decode prog_1_method_3_code 42 = .ok (.invokevirtual 66, 3) := by decide +kernel
theorem d_cG_load_45 : decode prog_1_method_3_code 45 = .ok (.putfield 23, 3) := by decide +kernel
theorem d_cG_load_48 : decode prog_1_method_3_code 48 = .ok (.aload_n 0, 1) := by decide +kernel
theorem d_cG_load_49 : decode prog_1_method_3_code 49 = .ok (.dup, 1) := by decide +kernel
theorem d_cG_load_50 : decode prog_1_method_3_code 50 = .ok (.getfield 70, 3) := by decide +kernel
theorem d_cG_load_53 : decode prog_1_method_3_code 53 = .ok (.iconst 1, 1) := by decide +kernel
theorem d_cG_load_54 : decode prog_1_method_3_code 54 = .ok (.iadd, 1) := by decide +kernel
theorem d_cG_load_55 : decode prog_1_method_3_code 55 = .ok (.putfield 70, 3) := by decide +kernel
theorem d_cG_load_58 : decode prog_1_method_3_code 58 = .ok (.aload_n 0, 1) := by decide +kernel
theorem d_cG_load_59 : decode prog_1_method_3_code 59 = .ok (.getfield 70, 3) := by decide +kernel
theorem d_cG_load_62 : decode prog_1_method_3_code 62 = .ok (.ireturn, 1) := by decide +kernel
def cG_load (S : CS) : Option (CS × Nat × Int32) := ((cReader_read (gI S 0 1) S).bind fun q12 => (bd (pI q12.1 0 1 0) fun S18 => (if q12.2 = true then (bd (gR S18 0 3) fun r39 => (if kd r39 = 7 then ((cReader_exchange r39 S18).bind fun q42 => (if kd q42.2 = 7 then (bd (pR q42.1 0 3 q42.2) fun S45 => (bd (pI S45 0 4 ((gI S45 0 4) + 1)) fun S55 => some (S55, 0, (gI S55 0 4)))) else none)) else none)) else some (S18, 1, 0))))
set_option maxHeartbeats 4000000 in
set_option maxRecDepth 100000 in
theorem M_cG_load {l : Launch} (hT : ∀ e, l.admits e → e.platform.stackTraces = false) {D : va_G} {cA : Nat → ClassId} {b : Nat} {ad : Nat → Nat}  {S : CS} {T : MS × (Nat → Int64)} {rr : (CS × Nat × Int32)}  (h : cG_load  S = some rr) : MetX l y_cG_load (Cond.code y_cG_load prog_1_method_3_code 2 (Option.some Jvm.ClassFile.FieldType.int) :: TW) { frames := 7, cells := 1, slots := 6, locals := 159 } (va_Pc [.ref (b + 0)] (RpY D cA b ad (S, T))) (QT D cA b ad "java/lang/IllegalArgumentException" (rr.1, T) rr.2.1 (some (.int rr.2.2))) 1 6 (Ab b) := by
  refine Ct_ofX (by decide) (Nat.le_of_ble_eq_true rfl) ?_
  intro p e R s m args below meth c ls Q H locs hR hQ hx hb hts hown hml hr hlk hC hY hX hS hl hex
  have hRf : R.frames = 7 := by rw [hR]
  have hRl : R.locals = 159 := by rw [hR]
  have hown : s.vm.findClass "TypeGuard" = some m.cls := hown
  have hl : lv_has ls 2 [(0, .ref (b + 0))] := hl
  rw [cG_load] at h
  refine lv_aload_n hx hb d_cG_load_0 rfl (lv_at hl 0 rfl) ?_
  refine c_get_0_2 hx hb hts hown hC hX (by rfl) (hts _ t_330) d_cG_load_1 ?_
  refine lv_aload_n hx hb d_cG_load_4 rfl (lv_at hl 0 rfl) ?_
  refine c_get_0_0 hx hb hts hown hC hX (by rfl) (hts _ t_328) d_cG_load_5 ?_
  refine lv_aload_n hx hb d_cG_load_8 rfl (lv_at hl 0 rfl) ?_
  refine c_get_0_1 hx hb hts hown hC hX (by rfl) (hts _ t_329) d_cG_load_9 ?_
  obtain ⟨q12, hc12, h⟩ := Option.bind_eq_some_iff.mp h
  refine ck_V (As := [.ref (b + 1), .int (gI S 0 1)]) (rest := []) (st1 := [.int (bI q12.2)]) (M_cReader_read  hc12) t_427 t_428 t_429 t_430 t_2 hx hb hts hown hC hX hS (hrc_c2 hC hX (by rfl)) hml hl.1 ⟨by rw [hRf]; decide, by rw [hRl]; decide⟩ ⟨rfl, rfl⟩ (n := 2) (by decide +kernel) rfl rfl rfl (lv_room (Nat.le_of_ble_eq_true rfl)) d_cG_load_12 (fun H locs hX hS => ?_)
  refine lv_istore_n (lv' := [(1, .int (bI q12.2)), (0, .ref (b + 0))]) hx hb d_cG_load_15 rfl hl (by decide) rfl (fun ls hl => ?_)
  refine lv_aload_n hx hb d_cG_load_16 rfl (lv_at hl 1 rfl) ?_
  refine lv_iconst (v := 0) hx hb d_cG_load_17 (by decide) ?_
  refine c_put_0_1 (v := 0) hx hb hts hown hC hX hS (by rfl) (hts _ t_329) d_cG_load_18 (fun H locs hX hS => ?_)
  obtain ⟨S18, e18, h⟩ := bd_some h
  rw [← e18] at hX
  refine lv_iload_n hx hb d_cG_load_21 rfl (lv_at hl 0 rfl) ?_
  refine lz_ifne hx hb d_cG_load_22 (tgt := 33) (by decide) (fun hc => ?_) (fun hc => ?_)
  · rw [if_pos hc] at h
    refine lv_aload_n hx hb d_cG_load_33 rfl (lv_at hl 1 rfl) ?_
    refine lv_aload_n hx hb d_cG_load_34 rfl (lv_at hl 1 rfl) ?_
    refine c_get_0_2 hx hb hts hown hC hX (by rfl) (hts _ t_330) d_cG_load_35 ?_
    refine lv_aload_n hx hb d_cG_load_38 rfl (lv_at hl 1 rfl) ?_
    refine c_get_0_3 hx hb hts hown hC hX (by rfl) (hts _ t_331) d_cG_load_39 ?_
    obtain ⟨r39, e39, h⟩ := bd_some h
    refine lt_R e39 ?_
    by_cases hkr39 : kd r39 = 7
    rotate_left; · rw [if_neg hkr39] at h; cases h
    rw [if_pos hkr39] at h
    obtain ⟨q42, hc42, h⟩ := Option.bind_eq_some_iff.mp h
    refine ck_V (As := [.ref (b + r39)]) (rest := [.ref (b + 0)]) (st1 := [.ref (b + q42.2), .ref (b + 0)]) (M_cReader_exchange hkr39 hc42) t_823 t_824 t_825 t_826 t_2 hx hb hts hown hC hX hS (hrc_c2 hC hX (by rfl)) hml hl.1 ⟨by rw [hRf]; decide, by rw [hRl]; decide⟩ ⟨rfl, rfl⟩ (n := 1) (by decide +kernel) rfl rfl rfl (lv_room (Nat.le_of_ble_eq_true rfl)) d_cG_load_42 (fun H locs hX hS => ?_)
    by_cases hkq42 : kd q42.2 = 7
    rotate_left; · rw [if_neg hkq42] at h; cases h
    rw [if_pos hkq42] at h
    refine c_put_0_3 (v := q42.2) hx hb hts hown hC hX hS (by rfl) (hts _ t_331) d_cG_load_45 (fun H locs hX hS => ?_)
    obtain ⟨S45, e45, h⟩ := bd_some h
    rw [← e45] at hX
    refine lv_aload_n hx hb d_cG_load_48 rfl (lv_at hl 1 rfl) ?_
    refine lv_dup hx hb d_cG_load_49 rfl ?_
    refine c_get_0_4 hx hb hts hown hC hX (by rfl) (hts _ t_332) d_cG_load_50 ?_
    refine lv_iconst (v := 1) hx hb d_cG_load_53 (by decide) ?_
    refine lv_iadd hx hb d_cG_load_54 ?_
    refine c_put_0_4 (v := ((gI S45 0 4) + 1)) hx hb hts hown hC hX hS (by rfl) (hts _ t_332) d_cG_load_55 (fun H locs hX hS => ?_)
    obtain ⟨S55, e55, h⟩ := bd_some h
    rw [← e55] at hX
    refine lv_aload_n hx hb d_cG_load_58 rfl (lv_at hl 1 rfl) ?_
    refine c_get_0_4 hx hb hts hown hC hX (by rfl) (hts _ t_332) d_cG_load_59 ?_
    obtain rfl := Option.some.inj h
    exact rx_i hQ hx hb hr hX hS hlk d_cG_load_62
  · rw [if_neg hc] at h
    obtain rfl := Option.some.inj h
    exact th_go (k := 1) hat_0 (by decide) rfl hQ hx hb hts hown hC hY hX hS hlk hT hex hml hl.1 ⟨by rw [hRf]; decide, by rw [hRl]; decide, by rw [hR]; decide, by rw [hR]; decide⟩ (Nat.le_of_ble_eq_true rfl) d_cG_load_25 d_cG_load_28 d_cG_load_29 d_cG_load_32
abbrev y_cG_flip : MethodName := ({ cls := "TypeGuard", name := "flip", desc := "(IZ)Z" } : Jvm.MethodName)
theorem d_cG_flip_0 : decode prog_1_method_6_code 0 = .ok (.aload_n 0, 1) := by decide +kernel
theorem d_cG_flip_1 : decode prog_1_method_6_code 1 = .ok (.getfield 23, 3) := by decide +kernel
theorem d_cG_flip_4 : decode prog_1_method_6_code 4 = .ok (.getfield 91, 3) := by decide +kernel
theorem d_cG_flip_7 : decode prog_1_method_6_code 7 = .ok (.iload_n 1, 1) := by decide +kernel
theorem d_cG_flip_8 : decode prog_1_method_6_code 8 = .ok (.invokevirtual 97, 3) := by decide +kernel
theorem d_cG_flip_11 : decode prog_1_method_6_code 11 = .ok (.ifCond .ne 11, 3) := by decide +kernel
theorem d_cG_flip_14 : decode prog_1_method_6_code 14 = .ok (.new 101, 3) := by decide +kernel
theorem d_cG_flip_17 : decode prog_1_method_6_code 17 = .ok (.dup, 1) := by decide +kernel
theorem d_cG_flip_18 : decode prog_1_method_6_code 18 = .ok (.invokespecial 103, 3) := by decide +kernel
theorem d_cG_flip_21 : decode prog_1_method_6_code 21 = .ok (.athrow, 1) := by decide +kernel
theorem d_cG_flip_22 : decode prog_1_method_6_code 22 = .ok (.aload_n 0, 1) := by decide +kernel
theorem d_cG_flip_23 : decode prog_1_method_6_code 23 = .ok (.getfield 23, 3) := by decide +kernel
theorem d_cG_flip_26 : decode prog_1_method_6_code 26 = .ok (.getfield 104, 3) := by decide +kernel
theorem d_cG_flip_29 : decode prog_1_method_6_code 29 = .ok (.iload_n 1, 1) := by decide +kernel
theorem d_cG_flip_30 : decode prog_1_method_6_code 30 = .ok (.baload, 1) := by decide +kernel
theorem d_cG_flip_31 : decode prog_1_method_6_code 31 = .ok (.istore_n 3, 1) := by decide +kernel
theorem d_cG_flip_32 : decode prog_1_method_6_code 32 = .ok (.iload_n 3, 1) := by decide +kernel
theorem d_cG_flip_33 : decode prog_1_method_6_code 33 = .ok (.iload_n 2, 1) := by decide +kernel
theorem d_cG_flip_34 : decode prog_1_method_6_code 34 = .ok (.if_icmp .eq 23, 3) := by decide +kernel
theorem d_cG_flip_37 : decode prog_1_method_6_code 37 = .ok (.aload_n 0, 1) := by decide +kernel
theorem d_cG_flip_38 : decode prog_1_method_6_code 38 = .ok (.getfield 23, 3) := by decide +kernel
theorem d_cG_flip_41 : decode prog_1_method_6_code 41 = .ok (.getfield 104, 3) := by decide +kernel
theorem d_cG_flip_44 : decode prog_1_method_6_code 44 = .ok (.iload_n 1, 1) := by decide +kernel
theorem d_cG_flip_45 : decode prog_1_method_6_code 45 = .ok (.iload_n 2, 1) := by decide +kernel
theorem d_cG_flip_46 : decode prog_1_method_6_code 46 = .ok (.bastore, 1) := by decide +kernel
theorem d_cG_flip_47 : decode prog_1_method_6_code 47 = .ok (.aload_n 0, 1) := by decide +kernel
theorem d_cG_flip_48 : decode prog_1_method_6_code 48 = .ok (.dup, 1) := by decide +kernel
theorem d_cG_flip_49 : decode prog_1_method_6_code 49 = .ok (.getfield 70, 3) := by decide +kernel
theorem d_cG_flip_52 : decode prog_1_method_6_code 52 = .ok (.iconst 1, 1) := by decide +kernel
theorem d_cG_flip_53 : decode prog_1_method_6_code 53 = .ok (.iadd, 1) := by decide +kernel
theorem d_cG_flip_54 : decode prog_1_method_6_code 54 = .ok (.putfield 70, 3) := by decide +kernel
theorem d_cG_flip_57 : decode prog_1_method_6_code 57 = .ok (.iload_n 3, 1) := by decide +kernel
theorem d_cG_flip_58 : decode prog_1_method_6_code 58 = .ok (.ireturn, 1) := by decide +kernel
def cG_flip (x1 : Int32) (x2 : Bool) (S : CS) : Option (CS × Nat × Bool) := (bd (gR S 0 3) fun r1 => (if kd r1 = 7 then ((cNames_hasNumber (r1 + 7) x1 S).bind fun q8 => (if q8 = true then (bd (gR S 0 3) fun r23 => (if kd r23 = 7 then (if inbd x1 3 = true then (bd ((gB S (r23 + 11) (txN x1))) fun a31 => (if (bI a31) = (bI x2) then some (S, 0, a31) else (bd (gR S 0 3) fun r38 => (if kd r38 = 7 then (if inbd x1 3 = true then (bd (pB S (r38 + 11) (txN x1) x2) fun S46 => (bd (pI S46 0 4 ((gI S46 0 4) + 1)) fun S54 => some (S54, 0, a31))) else none) else none)))) else none) else none)) else some (S, 1, false))) else none))
set_option maxHeartbeats 4000000 in
set_option maxRecDepth 100000 in
theorem M_cG_flip {l : Launch} (hT : ∀ e, l.admits e → e.platform.stackTraces = false) {D : va_G} {cA : Nat → ClassId} {b : Nat} {ad : Nat → Nat} {x1 : Int32} {x2 : Bool} {S : CS} {T : MS × (Nat → Int64)} {rr : (CS × Nat × Bool)}  (h : cG_flip x1 x2 S = some rr) : MetX l y_cG_flip (Cond.code y_cG_flip prog_1_method_6_code 4 (Option.some Jvm.ClassFile.FieldType.boolean) :: TW) { frames := 7, cells := 1, slots := 6, locals := 120 } (va_Pc [.ref (b + 0), .int x1, .int (bI x2)] (RpY D cA b ad (S, T))) (QT D cA b ad "java/util/NoSuchElementException" (rr.1, T) rr.2.1 (some (.int (bI rr.2.2)))) 1 6 (Ab b) := by
  refine Ct_ofX (by decide) (Nat.le_of_ble_eq_true rfl) ?_
  intro p e R s m args below meth c ls Q H locs hR hQ hx hb hts hown hml hr hlk hC hY hX hS hl hex
  have hRf : R.frames = 7 := by rw [hR]
  have hRl : R.locals = 120 := by rw [hR]
  have hown : s.vm.findClass "TypeGuard" = some m.cls := hown
  have hl : lv_has ls 4 [(0, .ref (b + 0)), (1, .int x1), (2, .int (bI x2))] := hl
  rw [cG_flip] at h
  refine lv_aload_n hx hb d_cG_flip_0 rfl (lv_at hl 0 rfl) ?_
  refine c_get_0_3 hx hb hts hown hC hX (by rfl) (hts _ t_331) d_cG_flip_1 ?_
  obtain ⟨r1, e1, h⟩ := bd_some h
  refine lt_R e1 ?_
  by_cases hkr1 : kd r1 = 7
  rotate_left; · rw [if_neg hkr1] at h; cases h
  rw [if_pos hkr1] at h
  refine c_get_7_3N (k := r1) hx hb hts hown hC hX hkr1 (va_Nw.use rfl (hC.2.1 _ t_194)) d_cG_flip_4 ?_
  refine lv_iload_n hx hb d_cG_flip_7 rfl (lv_at hl 1 rfl) ?_
  obtain ⟨q8, hc8, h⟩ := Option.bind_eq_some_iff.mp h
  refine ck_V (As := [.int x1]) (rest := []) (st1 := [.int (bI q8)]) (M_cNames_hasNumber (kx_7_7 hkr1) hc8) t_835 t_836 t_837 t_838 t_5 hx hb hts hown hC hX hS (hrc_c8 hC hX (kx_7_7 hkr1)) hml hl.1 ⟨by rw [hRf]; decide, by rw [hRl]; decide⟩ ⟨rfl, rfl⟩ (n := 1) (by decide +kernel) rfl rfl rfl (lv_room (Nat.le_of_ble_eq_true rfl)) d_cG_flip_8 (fun H locs hX hS => ?_)
  refine lz_ifne hx hb d_cG_flip_11 (tgt := 22) (by decide) (fun hc => ?_) (fun hc => ?_)
  · rw [if_pos hc] at h
    refine lv_aload_n hx hb d_cG_flip_22 rfl (lv_at hl 0 rfl) ?_
    refine c_get_0_3 hx hb hts hown hC hX (by rfl) (hts _ t_331) d_cG_flip_23 ?_
    obtain ⟨r23, e23, h⟩ := bd_some h
    refine lt_R e23 ?_
    by_cases hkr23 : kd r23 = 7
    rotate_left; · rw [if_neg hkr23] at h; cases h
    rw [if_pos hkr23] at h
    refine c_get_7_6N (k := r23) hx hb hts hown hC hX hkr23 (va_Nw.use rfl (hC.2.1 _ t_201)) d_cG_flip_26 ?_
    refine lv_iload_n hx hb d_cG_flip_29 rfl (lv_at hl 1 rfl) ?_
    by_cases hg30 : inbd x1 3 = true
    rotate_left; · rw [if_neg hg30] at h; cases h
    rw [if_pos hg30] at h
    refine c_ald_12 (k := (r23 + 11)) hx hb hC hX (kx_7_11 hkr23) hg30 d_cG_flip_30 ?_
    obtain ⟨a31, e31, h⟩ := bd_some h
    refine lt_Z e31 ?_
    refine lv_istore_n (lv' := [(3, .int (bI a31)), (0, .ref (b + 0)), (1, .int x1), (2, .int (bI x2))]) hx hb d_cG_flip_31 rfl hl (by decide) rfl (fun ls hl => ?_)
    refine lv_iload_n hx hb d_cG_flip_32 rfl (lv_at hl 0 rfl) ?_
    refine lv_iload_n hx hb d_cG_flip_33 rfl (lv_at hl 3 rfl) ?_
    refine lv_icmp_eq hx hb d_cG_flip_34 (tgt := 57) (by decide) (fun hc => ?_) (fun hc => ?_)
    · rw [if_pos hc] at h
      refine lv_iload_n hx hb d_cG_flip_57 rfl (lv_at hl 0 rfl) ?_
      obtain rfl := Option.some.inj h
      exact rx_z hQ hx hb hr hX hS hlk d_cG_flip_58
    · rw [if_neg hc] at h
      refine lv_aload_n hx hb d_cG_flip_37 rfl (lv_at hl 1 rfl) ?_
      refine c_get_0_3 hx hb hts hown hC hX (by rfl) (hts _ t_331) d_cG_flip_38 ?_
      obtain ⟨r38, e38, h⟩ := bd_some h
      refine lt_R e38 ?_
      by_cases hkr38 : kd r38 = 7
      rotate_left; · rw [if_neg hkr38] at h; cases h
      rw [if_pos hkr38] at h
      refine c_get_7_6N (k := r38) hx hb hts hown hC hX hkr38 (va_Nw.use rfl (hC.2.1 _ t_201)) d_cG_flip_41 ?_
      refine lv_iload_n hx hb d_cG_flip_44 rfl (lv_at hl 2 rfl) ?_
      refine lv_iload_n hx hb d_cG_flip_45 rfl (lv_at hl 3 rfl) ?_
      by_cases hg46 : inbd x1 3 = true
      rotate_left; · rw [if_neg hg46] at h; cases h
      rw [if_pos hg46] at h
      refine c_ast_12 (k := (r38 + 11)) (v := x2) hx hb hC hX hS (kx_7_11 hkr38) hg46 d_cG_flip_46 (fun H locs hX hS => ?_)
      obtain ⟨S46, e46, h⟩ := bd_some h
      rw [← e46] at hX
      refine lv_aload_n hx hb d_cG_flip_47 rfl (lv_at hl 1 rfl) ?_
      refine lv_dup hx hb d_cG_flip_48 rfl ?_
      refine c_get_0_4 hx hb hts hown hC hX (by rfl) (hts _ t_332) d_cG_flip_49 ?_
      refine lv_iconst (v := 1) hx hb d_cG_flip_52 (by decide) ?_
      refine lv_iadd hx hb d_cG_flip_53 ?_
      refine c_put_0_4 (v := ((gI S46 0 4) + 1)) hx hb hts hown hC hX hS (by rfl) (hts _ t_332) d_cG_flip_54 (fun H locs hX hS => ?_)
      obtain ⟨S54, e54, h⟩ := bd_some h
      rw [← e54] at hX
      refine lv_iload_n hx hb d_cG_flip_57 rfl (lv_at hl 0 rfl) ?_
      obtain rfl := Option.some.inj h
      exact rx_z hQ hx hb hr hX hS hlk d_cG_flip_58
  · rw [if_neg hc] at h
    obtain rfl := Option.some.inj h
    exact th_go (k := 1) hat_1 (by decide) rfl hQ hx hb hts hown hC hY hX hS hlk hT hex hml hl.1 ⟨by rw [hRf]; decide, by rw [hRl]; decide, by rw [hR]; decide, by rw [hR]; decide⟩ (Nat.le_of_ble_eq_true rfl) d_cG_flip_14 d_cG_flip_17 d_cG_flip_18 d_cG_flip_21
abbrev y_cG_vector : MethodName := ({ cls := "TypeGuard", name := "vector", desc := "(IIII)I" } : Jvm.MethodName)
theorem d_cG_vector_0 : decode prog_1_method_7_code 0 = .ok (.iload_n 1, 1) := by decide +kernel
theorem d_cG_vector_1 : decode prog_1_method_7_code 1 = .ok (.ifCond .lt 19, 3) := by decide +kernel
theorem d_cG_vector_4 : decode prog_1_method_7_code 4 = .ok (.iload_n 1, 1) := by decide +kernel
theorem d_cG_vector_5 : decode prog_1_method_7_code 5 = .ok (.iconst 2, 1) := by decide +kernel
theorem d_cG_vector_6 : decode prog_1_method_7_code 6 = .ok (.if_icmp .gt 14, 3) := by decide +kernel
theorem d_cG_vector_9 : decode prog_1_method_7_code 9 = .ok (.aload_n 0, 1) := by decide +kernel
theorem d_cG_vector_10 : decode prog_1_method_7_code 10 = .ok (.iload_n 2, 1) := by decide +kernel
theorem d_cG_vector_11 : decode prog_1_method_7_code 11 = .ok (.iload_n 3, 1) := by decide +kernel
theorem d_cG_vector_12 : decode prog_1_method_7_code 12 = .ok (.iload 4, 2) := by decide +kernel
theorem d_cG_vector_14 : decode prog_1_method_7_code 14 = .ok (.invokevirtual 108, 3) := by decide +kernel
theorem d_cG_vector_17 : decode prog_1_method_7_code 17 = .ok (.ifCond .ne 11, 3) := by decide +kernel
theorem d_cG_vector_20 : decode prog_1_method_7_code 20 = .ok (.new 101, 3) := by decide +kernel
theorem d_cG_vector_23 : decode prog_1_method_7_code 23 = .ok (.dup, 1) := by decide +kernel
theorem d_cG_vector_24 : decode prog_1_method_7_code 24 = .ok (.invokespecial 103, 3) := by decide +kernel
theorem d_cG_vector_27 : decode prog_1_method_7_code 27 = .ok (.athrow, 1) := by decide +kernel
theorem d_cG_vector_28 : decode prog_1_method_7_code 28 = .ok (.iload_n 1, 1) := by decide +kernel
theorem d_cG_vector_29 : decode prog_1_method_7_code 29 = .ok (.ifCond .ne 18, 3) := by decide +kernel
theorem d_cG_vector_32 : decode prog_1_method_7_code 32 = .ok (.aload_n 0, 1) := by decide +kernel
theorem d_cG_vector_33 : decode prog_1_method_7_code 33 = .ok (.getfield 23, 3) := by decide +kernel
theorem d_cG_vector_36 : decode prog_1_method_7_code 36 = .ok (.getstatic 112, 3) := by decide +kernel
theorem d_cG_vector_39 : decode prog_1_method_7_code 39 = .ok (.iload_n 2, 1) := by decide +kernel
theorem d_cG_vector_40 : decode prog_1_method_7_code 40 = .ok (.iload_n 3, 1) := by decide +kernel
theorem d_cG_vector_41 : decode prog_1_method_7_code 41 = .ok (.iload 4, 2) := by decide +kernel
theorem d_cG_vector_43 : decode prog_1_method_7_code 43 = .ok (.invokevirtual 118, 3) := by decide +kernel
theorem d_cG_vector_46 : decode prog_1_method_7_code 46 = .ok (.ireturn, 1) := by decide +kernel
theorem d_cG_vector_47 : decode prog_1_method_7_code 47 = .ok (.aload_n 0, 1) := by decide +kernel
theorem d_cG_vector_48 : decode prog_1_method_7_code 48 = .ok (.getfield 23, 3) := by decide +kernel
theorem d_cG_vector_51 : decode prog_1_method_7_code 51 = .ok (.iload_n 1, 1) := by decide +kernel
theorem d_cG_vector_52 : decode prog_1_method_7_code 52 = .ok (.iconst 1, 1) := by decide +kernel
theorem d_cG_vector_53 : decode prog_1_method_7_code 53 = .ok (.if_icmp .ne 9, 3) := by decide +kernel
theorem d_cG_vector_56 : decode prog_1_method_7_code 56 = .ok (.getstatic 122, 3) := by decide +kernel
theorem d_cG_vector_59 : decode prog_1_method_7_code 59 = .ok (.goto 6, 3) := by decide +kernel
theorem d_cG_vector_62 : decode prog_1_method_7_code 62 = .ok (.getstatic 125, 3) := by decide +kernel
theorem d_cG_vector_65 : decode prog_1_method_7_code 65 = .ok (.iload_n 2, 1) := by decide +kernel
theorem d_cG_vector_66 : decode prog_1_method_7_code 66 = .ok (.iload_n 3, 1) := by decide +kernel
theorem d_cG_vector_67 : decode prog_1_method_7_code 67 = .ok (.iload 4, 2) := by decide +kernel
theorem d_cG_vector_69 : decode prog_1_method_7_code 69 = .ok (.invokevirtual 118, 3) := by decide +kernel
theorem d_cG_vector_72 : decode prog_1_method_7_code 72 = .ok (.ireturn, 1) := by decide +kernel
def cG_vector_J20 (S_20 : CS) : Option (CS × Nat × Int32) := some (S_20, 1, 0)
def cG_vector_J65 (v2_65 : Int32) (v3_65 : Int32) (v4_65 : Int32) (s0_65 : Nat) (s1_65 : Nat) (S_65 : CS) : Option (CS × Nat × Int32) := ((cPolicy_permissionsBy s1_65 s0_65 v2_65 v3_65 v4_65 S_65).bind fun q69 => some (S_65, 0, q69))
def cG_vector (x1 : Int32) (x2 : Int32) (x3 : Int32) (x4 : Int32) (S : CS) : Option (CS × Nat × Int32) := (if x1 < 0 then cG_vector_J20 S else (if 2 < x1 then cG_vector_J20 S else ((cG_areKnown x2 x3 x4 S).bind fun q14 => (if q14 = true then (if x1 = 0 then (bd (gR S 0 3) fun r33 => (if kd r33 = 7 then ((cPolicy_permissionsBy r33 5 x2 x3 x4 S).bind fun q43 => some (S, 0, q43)) else none)) else (bd (gR S 0 3) fun r48 => (if kd r48 = 7 then (if x1 = 1 then cG_vector_J65 x2 x3 x4 6 r48 S else cG_vector_J65 x2 x3 x4 7 r48 S) else none))) else cG_vector_J20 S))))
set_option maxHeartbeats 4000000 in
set_option maxRecDepth 100000 in
theorem M_cG_vector {l : Launch} (hT : ∀ e, l.admits e → e.platform.stackTraces = false) {D : va_G} {cA : Nat → ClassId} {b : Nat} {ad : Nat → Nat} {x1 : Int32} {x2 : Int32} {x3 : Int32} {x4 : Int32} {S : CS} {T : MS × (Nat → Int64)} {rr : (CS × Nat × Int32)}  (h : cG_vector x1 x2 x3 x4 S = some rr) : MetX l y_cG_vector (Cond.code y_cG_vector prog_1_method_7_code 5 (Option.some Jvm.ClassFile.FieldType.int) :: TW) { frames := 7, cells := 1, slots := 6, locals := 120 } (va_Pc [.ref (b + 0), .int x1, .int x2, .int x3, .int x4] (RpY D cA b ad (S, T))) (QT D cA b ad "java/util/NoSuchElementException" (rr.1, T) rr.2.1 (some (.int rr.2.2))) 1 6 (Ab b) := by
  refine Ct_ofX (by decide) (Nat.le_of_ble_eq_true rfl) ?_
  intro p e R s m args below meth c ls Q H locs hR hQ hx hb hts hown hml hr hlk hC hY hX hS hl hex
  have hRf : R.frames = 7 := by rw [hR]
  have hRl : R.locals = 120 := by rw [hR]
  have hown : s.vm.findClass "TypeGuard" = some m.cls := hown
  have hl : lv_has ls 5 [(0, .ref (b + 0)), (1, .int x1), (2, .int x2), (3, .int x3), (4, .int x4)] := hl
  rw [cG_vector] at h
  refine lv_iload_n hx hb d_cG_vector_0 rfl (lv_at hl 1 rfl) ?_
  have J20 : ∀  (H : Heap) (locs : List Loc) (ls : Array Slot), hp D cA b ad (S, T) H → va_S (Ab b) s.heap H locs → lv_has ls 5 [] → cG_vector_J20 S = some rr → W p l e R s m args below meth c H locs 0 0 Q (F0 m 20 ls []) := by
    intro  H locs ls  hX hS hl h
    rw [cG_vector_J20] at h
    obtain rfl := Option.some.inj h
    exact th_go (k := 1) hat_1 (by decide) rfl hQ hx hb hts hown hC hY hX hS hlk hT hex hml hl.1 ⟨by rw [hRf]; decide, by rw [hRl]; decide, by rw [hR]; decide, by rw [hR]; decide⟩ (Nat.le_of_ble_eq_true rfl) d_cG_vector_20 d_cG_vector_23 d_cG_vector_24 d_cG_vector_27
  refine lv_if_lt hx hb d_cG_vector_1 (tgt := 20) (by decide) (fun hc => ?_) (fun hc => ?_)
  · rw [if_pos hc] at h
    exact J20  H locs ls  hX hS (lv_sub hl [] rfl) h
  · rw [if_neg hc] at h
    refine lv_iload_n hx hb d_cG_vector_4 rfl (lv_at hl 1 rfl) ?_
    refine lv_iconst (v := 2) hx hb d_cG_vector_5 (by decide) ?_
    refine lv_icmp_gt hx hb d_cG_vector_6 (tgt := 20) (by decide) (fun hc => ?_) (fun hc => ?_)
    · rw [if_pos hc] at h
      exact J20  H locs ls  hX hS (lv_sub hl [] rfl) h
    · rw [if_neg hc] at h
      refine lv_aload_n hx hb d_cG_vector_9 rfl (lv_at hl 0 rfl) ?_
      refine lv_iload_n hx hb d_cG_vector_10 rfl (lv_at hl 2 rfl) ?_
      refine lv_iload_n hx hb d_cG_vector_11 rfl (lv_at hl 3 rfl) ?_
      refine lv_iload hx hb d_cG_vector_12 (lv_at hl 4 rfl) ?_
      obtain ⟨q14, hc14, h⟩ := Option.bind_eq_some_iff.mp h
      refine ck_V (As := [.int x2, .int x3, .int x4]) (rest := []) (st1 := [.int (bI q14)]) (M_cG_areKnown  hc14) t_861 t_863 p_31 t_864 t_1 hx hb hts hown hC hX hS (hrc_c0 hC hX (by rfl)) hml hl.1 ⟨by rw [hRf]; decide, by rw [hRl]; decide⟩ ⟨rfl, rfl⟩ (n := 3) (by decide +kernel) rfl rfl rfl (lv_room (Nat.le_of_ble_eq_true rfl)) d_cG_vector_14 (fun H locs hX hS => ?_)
      refine lz_ifne hx hb d_cG_vector_17 (tgt := 28) (by decide) (fun hc => ?_) (fun hc => ?_)
      · rw [if_pos hc] at h
        refine lv_iload_n hx hb d_cG_vector_28 rfl (lv_at hl 1 rfl) ?_
        refine lv_if_ne hx hb d_cG_vector_29 (tgt := 47) (by decide) (fun hc => ?_) (fun hc => ?_)
        · rw [if_neg hc] at h
          refine lv_aload_n hx hb d_cG_vector_47 rfl (lv_at hl 0 rfl) ?_
          refine c_get_0_3 hx hb hts hown hC hX (by rfl) (hts _ t_331) d_cG_vector_48 ?_
          obtain ⟨r48, e48, h⟩ := bd_some h
          refine lt_R e48 ?_
          by_cases hkr48 : kd r48 = 7
          rotate_left; · rw [if_neg hkr48] at h; cases h
          rw [if_pos hkr48] at h
          refine lv_iload_n hx hb d_cG_vector_51 rfl (lv_at hl 1 rfl) ?_
          refine lv_iconst (v := 1) hx hb d_cG_vector_52 (by decide) ?_
          have J65 : ∀ (s0_65 : Nat) (H : Heap) (locs : List Loc) (ls : Array Slot), s0_65 < 15 → hp D cA b ad (S, T) H → va_S (Ab b) s.heap H locs → lv_has ls 5 [(2, .int x2), (3, .int x3), (4, .int x4)] → cG_vector_J65 x2 x3 x4 s0_65 r48 S = some rr → W p l e R s m args below meth c H locs 0 0 Q (F0 m 65 ls [.ref (ad s0_65), .ref (b + r48)]) := by
            intro s0_65 H locs ls hs0_65 hX hS hl h
            rw [cG_vector_J65] at h
            refine lv_iload_n hx hb d_cG_vector_65 rfl (lv_at hl 0 rfl) ?_
            refine lv_iload_n hx hb d_cG_vector_66 rfl (lv_at hl 1 rfl) ?_
            refine lv_iload hx hb d_cG_vector_67 (lv_at hl 2 rfl) ?_
            obtain ⟨q69, hc69, h⟩ := Option.bind_eq_some_iff.mp h
            refine ck_V (As := [.ref (ad s0_65), .int x2, .int x3, .int x4]) (rest := []) (st1 := [.int q69]) (M_cPolicy_permissionsBy hkr48 hs0_65 hc69) t_866 t_867 t_868 t_869 t_4 hx hb hts hown hC hX hS (hrc_c7 hC hX hkr48) hml hl.1 ⟨by rw [hRf]; decide, by rw [hRl]; decide⟩ ⟨rfl, rfl⟩ (n := 4) (by decide +kernel) rfl rfl rfl (lv_room (Nat.le_of_ble_eq_true rfl)) d_cG_vector_69 (fun H locs hX hS => ?_)
            obtain rfl := Option.some.inj h
            exact rx_i hQ hx hb hr hX hS hlk d_cG_vector_72
          refine lv_icmp_ne hx hb d_cG_vector_53 (tgt := 62) (by decide) (fun hc => ?_) (fun hc => ?_)
          · rw [if_neg hc] at h
            refine st_W (i := 7) hx hb hC hS hown (hts _ t_880) d_cG_vector_62 (by decide) ?_
            exact J65 7 H locs ls (by decide) hX hS (lv_sub hl [2, 3, 4] rfl) h
          · rw [if_pos hc] at h
            refine st_W (i := 6) hx hb hC hS hown (hts _ t_879) d_cG_vector_56 (by decide) ?_
            refine lv_goto hx hb d_cG_vector_59 (tgt := 65) (by decide) ?_
            exact J65 6 H locs ls (by decide) hX hS (lv_sub hl [2, 3, 4] rfl) h
        · rw [if_pos hc] at h
          refine lv_aload_n hx hb d_cG_vector_32 rfl (lv_at hl 0 rfl) ?_
          refine c_get_0_3 hx hb hts hown hC hX (by rfl) (hts _ t_331) d_cG_vector_33 ?_
          obtain ⟨r33, e33, h⟩ := bd_some h
          refine lt_R e33 ?_
          by_cases hkr33 : kd r33 = 7
          rotate_left; · rw [if_neg hkr33] at h; cases h
          rw [if_pos hkr33] at h
          refine st_W (i := 5) hx hb hC hS hown (hts _ t_865) d_cG_vector_36 (by decide) ?_
          refine lv_iload_n hx hb d_cG_vector_39 rfl (lv_at hl 2 rfl) ?_
          refine lv_iload_n hx hb d_cG_vector_40 rfl (lv_at hl 3 rfl) ?_
          refine lv_iload hx hb d_cG_vector_41 (lv_at hl 4 rfl) ?_
          obtain ⟨q43, hc43, h⟩ := Option.bind_eq_some_iff.mp h
          refine ck_V (As := [.ref (ad 5), .int x2, .int x3, .int x4]) (rest := []) (st1 := [.int q43]) (M_cPolicy_permissionsBy hkr33 (by decide) hc43) t_866 t_867 t_868 t_869 t_4 hx hb hts hown hC hX hS (hrc_c7 hC hX hkr33) hml hl.1 ⟨by rw [hRf]; decide, by rw [hRl]; decide⟩ ⟨rfl, rfl⟩ (n := 4) (by decide +kernel) rfl rfl rfl (lv_room (Nat.le_of_ble_eq_true rfl)) d_cG_vector_43 (fun H locs hX hS => ?_)
          obtain rfl := Option.some.inj h
          exact rx_i hQ hx hb hr hX hS hlk d_cG_vector_46
      · rw [if_neg hc] at h
        exact J20  H locs ls  hX hS (lv_sub hl [] rfl) h
abbrev y_cG_why : MethodName := ({ cls := "TypeGuard", name := "why", desc := "(IIII)I" } : Jvm.MethodName)
theorem d_cG_why_0 : decode prog_1_method_8_code 0 = .ok (.aload_n 0, 1) := by decide +kernel
theorem d_cG_why_1 : decode prog_1_method_8_code 1 = .ok (.iload_n 1, 1) := by decide +kernel
theorem d_cG_why_2 : decode prog_1_method_8_code 2 = .ok (.iload_n 2, 1) := by decide +kernel
theorem d_cG_why_3 : decode prog_1_method_8_code 3 = .ok (.iload_n 3, 1) := by decide +kernel
theorem d_cG_why_4 : decode prog_1_method_8_code 4 = .ok (.invokevirtual 108, 3) := by decide +kernel
theorem d_cG_why_7 : decode prog_1_method_8_code 7 = .ok (.ifCond .ne 11, 3) := by decide +kernel
theorem d_cG_why_10 : decode prog_1_method_8_code 10 = .ok (.new 101, 3) := by decide +kernel
theorem d_cG_why_13 : decode prog_1_method_8_code 13 = .ok (.dup, 1) := by decide +kernel
theorem d_cG_why_14 : decode prog_1_method_8_code 14 = .ok (.invokespecial 103, 3) := by decide +kernel
theorem d_cG_why_17 : decode prog_1_method_8_code 17 = .ok (.athrow, 1) := by decide +kernel
theorem d_cG_why_18 : decode prog_1_method_8_code 18 = .ok (.aload_n 0, 1) := by decide +kernel
theorem d_cG_why_19 : decode prog_1_method_8_code 19 = .ok (.getfield 23, 3) := by decide +kernel
theorem d_cG_why_22 : decode prog_1_method_8_code 22 = .ok (.iload_n 1, 1) := by decide +kernel
theorem d_cG_why_23 : decode prog_1_method_8_code 23 = .ok (.iload_n 2, 1) := by decide +kernel
theorem d_cG_why_24 : decode prog_1_method_8_code 24 = .ok (.iload_n 3, 1) := by decide +kernel
theorem d_cG_why_25 : decode prog_1_method_8_code 25 = .ok (.iload 4, 2) := by decide +kernel
theorem d_cG_why_27 : decode prog_1_method_8_code 27 = .ok (.invokevirtual 128, 3) := by decide +kernel
theorem d_cG_why_30 : decode prog_1_method_8_code 30 = .ok (.ireturn, 1) := by decide +kernel
def cG_why (x1 : Int32) (x2 : Int32) (x3 : Int32) (x4 : Int32) (S : CS) : Option (CS × Nat × Int32) := ((cG_areKnown x1 x2 x3 S).bind fun q4 => (if q4 = true then (bd (gR S 0 3) fun r19 => (if kd r19 = 7 then ((cPolicy_placeOfAllow r19 x1 x2 x3 x4 S).bind fun q27 => some (S, 0, q27)) else none)) else some (S, 1, 0)))
set_option maxHeartbeats 4000000 in
set_option maxRecDepth 100000 in
theorem M_cG_why {l : Launch} (hT : ∀ e, l.admits e → e.platform.stackTraces = false) {D : va_G} {cA : Nat → ClassId} {b : Nat} {ad : Nat → Nat} {x1 : Int32} {x2 : Int32} {x3 : Int32} {x4 : Int32} {S : CS} {T : MS × (Nat → Int64)} {rr : (CS × Nat × Int32)}  (h : cG_why x1 x2 x3 x4 S = some rr) : MetX l y_cG_why (Cond.code y_cG_why prog_1_method_8_code 5 (Option.some Jvm.ClassFile.FieldType.int) :: TW) { frames := 7, cells := 1, slots := 6, locals := 120 } (va_Pc [.ref (b + 0), .int x1, .int x2, .int x3, .int x4] (RpY D cA b ad (S, T))) (QT D cA b ad "java/util/NoSuchElementException" (rr.1, T) rr.2.1 (some (.int rr.2.2))) 1 6 (Ab b) := by
  refine Ct_ofX (by decide) (Nat.le_of_ble_eq_true rfl) ?_
  intro p e R s m args below meth c ls Q H locs hR hQ hx hb hts hown hml hr hlk hC hY hX hS hl hex
  have hRf : R.frames = 7 := by rw [hR]
  have hRl : R.locals = 120 := by rw [hR]
  have hown : s.vm.findClass "TypeGuard" = some m.cls := hown
  have hl : lv_has ls 5 [(0, .ref (b + 0)), (1, .int x1), (2, .int x2), (3, .int x3), (4, .int x4)] := hl
  rw [cG_why] at h
  refine lv_aload_n hx hb d_cG_why_0 rfl (lv_at hl 0 rfl) ?_
  refine lv_iload_n hx hb d_cG_why_1 rfl (lv_at hl 1 rfl) ?_
  refine lv_iload_n hx hb d_cG_why_2 rfl (lv_at hl 2 rfl) ?_
  refine lv_iload_n hx hb d_cG_why_3 rfl (lv_at hl 3 rfl) ?_
  obtain ⟨q4, hc4, h⟩ := Option.bind_eq_some_iff.mp h
  refine ck_V (As := [.int x1, .int x2, .int x3]) (rest := []) (st1 := [.int (bI q4)]) (M_cG_areKnown  hc4) t_861 t_863 p_31 t_864 t_1 hx hb hts hown hC hX hS (hrc_c0 hC hX (by rfl)) hml hl.1 ⟨by rw [hRf]; decide, by rw [hRl]; decide⟩ ⟨rfl, rfl⟩ (n := 3) (by decide +kernel) rfl rfl rfl (lv_room (Nat.le_of_ble_eq_true rfl)) d_cG_why_4 (fun H locs hX hS => ?_)
  refine lz_ifne hx hb d_cG_why_7 (tgt := 18) (by decide) (fun hc => ?_) (fun hc => ?_)
  · rw [if_pos hc] at h
    refine lv_aload_n hx hb d_cG_why_18 rfl (lv_at hl 0 rfl) ?_
    refine c_get_0_3 hx hb hts hown hC hX (by rfl) (hts _ t_331) d_cG_why_19 ?_
    obtain ⟨r19, e19, h⟩ := bd_some h
    refine lt_R e19 ?_
    by_cases hkr19 : kd r19 = 7
    rotate_left; · rw [if_neg hkr19] at h; cases h
    rw [if_pos hkr19] at h
    refine lv_iload_n hx hb d_cG_why_22 rfl (lv_at hl 1 rfl) ?_
    refine lv_iload_n hx hb d_cG_why_23 rfl (lv_at hl 2 rfl) ?_
    refine lv_iload_n hx hb d_cG_why_24 rfl (lv_at hl 3 rfl) ?_
    refine lv_iload hx hb d_cG_why_25 (lv_at hl 4 rfl) ?_
    obtain ⟨q27, hc27, h⟩ := Option.bind_eq_some_iff.mp h
    refine ck_V (As := [.int x1, .int x2, .int x3, .int x4]) (rest := []) (st1 := [.int q27]) (M_cPolicy_placeOfAllow hkr19 hc27) t_888 t_889 t_890 t_891 t_4 hx hb hts hown hC hX hS (hrc_c7 hC hX hkr19) hml hl.1 ⟨by rw [hRf]; decide, by rw [hRl]; decide⟩ ⟨rfl, rfl⟩ (n := 4) (by decide +kernel) rfl rfl rfl (lv_room (Nat.le_of_ble_eq_true rfl)) d_cG_why_27 (fun H locs hX hS => ?_)
    obtain rfl := Option.some.inj h
    exact rx_i hQ hx hb hr hX hS hlk d_cG_why_30
  · rw [if_neg hc] at h
    obtain rfl := Option.some.inj h
    exact th_go (k := 1) hat_1 (by decide) rfl hQ hx hb hts hown hC hY hX hS hlk hT hex hml hl.1 ⟨by rw [hRf]; decide, by rw [hRl]; decide, by rw [hR]; decide, by rw [hR]; decide⟩ (Nat.le_of_ble_eq_true rfl) d_cG_why_10 d_cG_why_13 d_cG_why_14 d_cG_why_17
abbrev y_cG_enter : MethodName := ({ cls := "TypeGuard", name := "enter", desc := "(II)V" } : Jvm.MethodName)
theorem d_cG_enter_0 : decode prog_1_method_9_code 0 = .ok (.iload_n 1, 1) := by decide +kernel
theorem d_cG_enter_1 : decode prog_1_method_9_code 1 = .ok (.invokestatic 132, 3) := by decide +kernel
theorem d_cG_enter_4 : decode prog_1_method_9_code 4 = .ok (.ifCond .eq 17, 3) := by decide +kernel
theorem d_cG_enter_7 : decode prog_1_method_9_code 7 = .ok (.aload_n 0, 1) := by decide +kernel
theorem d_cG_enter_8 : decode prog_1_method_9_code 8 = .ok (.getfield 23, 3) := by decide +kernel
theorem d_cG_enter_11 : decode prog_1_method_9_code 11 = .ok (.getfield 79, 3) := by decide +kernel
theorem d_cG_enter_14 : decode prog_1_method_9_code 14 = .ok (.iload_n 2, 1) := by decide +kernel
theorem d_cG_enter_15 : decode prog_1_method_9_code 15 = .ok (.invokevirtual 97, 3) := by decide +kernel
theorem d_cG_enter_18 : decode prog_1_method_9_code 18 = .ok (.ifCond .ne 11, 3) := by decide +kernel
theorem d_cG_enter_21 : decode prog_1_method_9_code 21 = .ok (.new 101, 3) := by decide +kernel
theorem d_cG_enter_24 : decode prog_1_method_9_code 24 = .ok (.dup, 1) := by decide +kernel
theorem d_cG_enter_25 : decode prog_1_method_9_code 25 = .ok (.invokespecial 103, 3) := by decide +kernel
theorem d_cG_enter_28 : decode prog_1_method_9_code 28 = .ok (.athrow, 1) := by decide +kernel
theorem d_cG_enter_29 : decode prog_1_method_9_code 29 = .ok (.aload_n 0, 1) := by decide +kernel
theorem d_cG_enter_30 : decode prog_1_method_9_code 30 = .ok (.getfield 27, 3) := by decide +kernel
theorem d_cG_enter_33 : decode prog_1_method_9_code 33 = .ok (.iload_n 1, 1) := by decide +kernel
theorem d_cG_enter_34 : decode prog_1_method_9_code 34 = .ok (.aload_n 0, 1) := by decide +kernel
theorem d_cG_enter_35 : decode prog_1_method_9_code 35 = .ok (.getfield 23, 3) := by decide +kernel
theorem d_cG_enter_38 : decode prog_1_method_9_code 38 = .ok (.getfield 79, 3) := by decide +kernel
theorem d_cG_enter_41 : decode prog_1_method_9_code 41 = .ok (.iload_n 2, 1) := by decide +kernel
theorem d_cG_enter_42 : decode prog_1_method_9_code 42 = .ok (.invokevirtual 135, 3) := by decide +kernel
theorem d_cG_enter_45 : decode prog_1_method_9_code 45 = .ok (.lastore, 1) := by decide +kernel
theorem d_cG_enter_46 : decode prog_1_method_9_code 46 = .ok (.return_, 1) := by decide +kernel
def cG_enter_J21 (S_21 : CS) : Option (CS × Nat × Unit) := some (S_21, 1, ())
def cG_enter (x1 : Int32) (x2 : Int32) (S : CS) : Option (CS × Nat × Unit) := ((cG_isProcess x1).bind fun q1 => (if q1 = true then (bd (gR S 0 3) fun r8 => (if kd r8 = 7 then ((cNames_hasNumber (r8 + 1) x2 S).bind fun q15 => (if q15 = true then (bd (gR S 0 3) fun r35 => (if kd r35 = 7 then ((cNames_nameOf (r35 + 1) x2 S).bind fun q42 => (if inbd x1 6 = true then (bd (pL S 241 (txN x1) q42) fun S45 => some (S45, 0, ())) else none)) else none)) else cG_enter_J21 S)) else none)) else cG_enter_J21 S))
set_option maxHeartbeats 4000000 in
set_option maxRecDepth 100000 in
theorem M_cG_enter {l : Launch} (hT : ∀ e, l.admits e → e.platform.stackTraces = false) {D : va_G} {cA : Nat → ClassId} {b : Nat} {ad : Nat → Nat} {x1 : Int32} {x2 : Int32} {S : CS} {T : MS × (Nat → Int64)} {rr : (CS × Nat × Unit)}  (h : cG_enter x1 x2 S = some rr) : MetX l y_cG_enter (Cond.code y_cG_enter prog_1_method_9_code 3 (Option.none : Option Jvm.ClassFile.FieldType) :: TW) { frames := 7, cells := 1, slots := 6, locals := 120 } (va_Pc [.ref (b + 0), .int x1, .int x2] (RpY D cA b ad (S, T))) (QT D cA b ad "java/util/NoSuchElementException" (rr.1, T) rr.2.1 none) 1 6 (Ab b) := by
  refine Ct_ofX (by decide) (Nat.le_of_ble_eq_true rfl) ?_
  intro p e R s m args below meth c ls Q H locs hR hQ hx hb hts hown hml hr hlk hC hY hX hS hl hex
  have hRf : R.frames = 7 := by rw [hR]
  have hRl : R.locals = 120 := by rw [hR]
  have hown : s.vm.findClass "TypeGuard" = some m.cls := hown
  have hl : lv_has ls 3 [(0, .ref (b + 0)), (1, .int x1), (2, .int x2)] := hl
  rw [cG_enter] at h
  refine lv_iload_n hx hb d_cG_enter_0 rfl (lv_at hl 1 rfl) ?_
  obtain ⟨q1, hc1, h⟩ := Option.bind_eq_some_iff.mp h
  refine ck_S (As := [.int x1]) (rest := []) (st1 := [.int (bI q1)]) (M_cG_isProcess  hc1) t_382 t_383 t_384 t_1 hx hb hts hown hC hX hS  hml hl.1 ⟨by rw [hRf]; decide, by rw [hRl]; decide⟩ ⟨rfl, rfl⟩ (n := 1) (by decide +kernel) rfl rfl rfl (lv_room (Nat.le_of_ble_eq_true rfl)) d_cG_enter_1 (fun H locs hX hS => ?_)
  have J21 : ∀  (H : Heap) (locs : List Loc) (ls : Array Slot), hp D cA b ad (S, T) H → va_S (Ab b) s.heap H locs → lv_has ls 3 [] → cG_enter_J21 S = some rr → W p l e R s m args below meth c H locs 0 0 Q (F0 m 21 ls []) := by
    intro  H locs ls  hX hS hl h
    rw [cG_enter_J21] at h
    obtain rfl := Option.some.inj h
    exact th_go (k := 1) hat_1 (by decide) rfl hQ hx hb hts hown hC hY hX hS hlk hT hex hml hl.1 ⟨by rw [hRf]; decide, by rw [hRl]; decide, by rw [hR]; decide, by rw [hR]; decide⟩ (Nat.le_of_ble_eq_true rfl) d_cG_enter_21 d_cG_enter_24 d_cG_enter_25 d_cG_enter_28
  refine lz_ifeq hx hb d_cG_enter_4 (tgt := 21) (by decide) (fun hc => ?_) (fun hc => ?_)
  · rw [if_neg hc] at h
    exact J21  H locs ls  hX hS (lv_sub hl [] rfl) h
  · rw [if_pos hc] at h
    refine lv_aload_n hx hb d_cG_enter_7 rfl (lv_at hl 0 rfl) ?_
    refine c_get_0_3 hx hb hts hown hC hX (by rfl) (hts _ t_331) d_cG_enter_8 ?_
    obtain ⟨r8, e8, h⟩ := bd_some h
    refine lt_R e8 ?_
    by_cases hkr8 : kd r8 = 7
    rotate_left; · rw [if_neg hkr8] at h; cases h
    rw [if_pos hkr8] at h
    refine c_get_7_0N (k := r8) hx hb hts hown hC hX hkr8 (va_Nw.use rfl (hC.2.1 _ t_186)) d_cG_enter_11 ?_
    refine lv_iload_n hx hb d_cG_enter_14 rfl (lv_at hl 2 rfl) ?_
    obtain ⟨q15, hc15, h⟩ := Option.bind_eq_some_iff.mp h
    refine ck_V (As := [.int x2]) (rest := []) (st1 := [.int (bI q15)]) (M_cNames_hasNumber (kx_7_1 hkr8) hc15) t_835 t_836 t_837 t_838 t_5 hx hb hts hown hC hX hS (hrc_c8 hC hX (kx_7_1 hkr8)) hml hl.1 ⟨by rw [hRf]; decide, by rw [hRl]; decide⟩ ⟨rfl, rfl⟩ (n := 1) (by decide +kernel) rfl rfl rfl (lv_room (Nat.le_of_ble_eq_true rfl)) d_cG_enter_15 (fun H locs hX hS => ?_)
    refine lz_ifne hx hb d_cG_enter_18 (tgt := 29) (by decide) (fun hc => ?_) (fun hc => ?_)
    · rw [if_pos hc] at h
      refine lv_aload_n hx hb d_cG_enter_29 rfl (lv_at hl 0 rfl) ?_
      refine c_get_0_5 hx hb hts hown hC hX (by rfl) (hts _ t_333) d_cG_enter_30 ?_
      refine lv_iload_n hx hb d_cG_enter_33 rfl (lv_at hl 1 rfl) ?_
      refine lv_aload_n hx hb d_cG_enter_34 rfl (lv_at hl 0 rfl) ?_
      refine c_get_0_3 hx hb hts hown hC hX (by rfl) (hts _ t_331) d_cG_enter_35 ?_
      obtain ⟨r35, e35, h⟩ := bd_some h
      refine lt_R e35 ?_
      by_cases hkr35 : kd r35 = 7
      rotate_left; · rw [if_neg hkr35] at h; cases h
      rw [if_pos hkr35] at h
      refine c_get_7_0N (k := r35) hx hb hts hown hC hX hkr35 (va_Nw.use rfl (hC.2.1 _ t_186)) d_cG_enter_38 ?_
      refine lv_iload_n hx hb d_cG_enter_41 rfl (lv_at hl 2 rfl) ?_
      obtain ⟨q42, hc42, h⟩ := Option.bind_eq_some_iff.mp h
      refine ck_V (As := [.int x2]) (rest := [.int x1, .ref (b + 241)]) (st1 := [.long q42, .int x1, .ref (b + 241)]) (M_cNames_nameOf (kx_7_1 hkr35) hc42) t_899 t_900 t_901 t_902 t_5 hx hb hts hown hC hX hS (hrc_c8 hC hX (kx_7_1 hkr35)) hml hl.1 ⟨by rw [hRf]; decide, by rw [hRl]; decide⟩ ⟨rfl, rfl⟩ (n := 1) (by decide +kernel) rfl rfl rfl (lv_room (Nat.le_of_ble_eq_true rfl)) d_cG_enter_42 (fun H locs hX hS => ?_)
      by_cases hg45 : inbd x1 6 = true
      rotate_left; · rw [if_neg hg45] at h; cases h
      rw [if_pos hg45] at h
      refine c_ast_17 (k := 241) (v := q42) hx hb hC hX hS (by rfl) hg45 d_cG_enter_45 (fun H locs hX hS => ?_)
      obtain ⟨S45, e45, h⟩ := bd_some h
      rw [← e45] at hX
      obtain rfl := Option.some.inj h
      exact rx_v hQ hx hb hr hX hS hlk d_cG_enter_46
    · rw [if_neg hc] at h
      exact J21  H locs ls  hX hS (lv_sub hl [] rfl) h
abbrev y_cG_put : MethodName := ({ cls := "TypeGuard", name := "put", desc := "(III)V" } : Jvm.MethodName)
theorem d_cG_put_0 : decode prog_1_method_10_code 0 = .ok (.iload_n 1, 1) := by decide +kernel
theorem d_cG_put_1 : decode prog_1_method_10_code 1 = .ok (.invokestatic 139, 3) := by decide +kernel
theorem d_cG_put_4 : decode prog_1_method_10_code 4 = .ok (.ifCond .eq 31, 3) := by decide +kernel
theorem d_cG_put_7 : decode prog_1_method_10_code 7 = .ok (.aload_n 0, 1) := by decide +kernel
theorem d_cG_put_8 : decode prog_1_method_10_code 8 = .ok (.getfield 23, 3) := by decide +kernel
theorem d_cG_put_11 : decode prog_1_method_10_code 11 = .ok (.getfield 79, 3) := by decide +kernel
theorem d_cG_put_14 : decode prog_1_method_10_code 14 = .ok (.iload_n 2, 1) := by decide +kernel
theorem d_cG_put_15 : decode prog_1_method_10_code 15 = .ok (.invokevirtual 97, 3) := by decide +kernel
theorem d_cG_put_18 : decode prog_1_method_10_code 18 = .ok (.ifCond .eq 17, 3) := by decide +kernel
theorem d_cG_put_21 : decode prog_1_method_10_code 21 = .ok (.aload_n 0, 1) := by decide +kernel
theorem d_cG_put_22 : decode prog_1_method_10_code 22 = .ok (.getfield 23, 3) := by decide +kernel
theorem d_cG_put_25 : decode prog_1_method_10_code 25 = .ok (.getfield 88, 3) := by decide +kernel
theorem d_cG_put_28 : decode prog_1_method_10_code 28 = .ok (.iload_n 3, 1) := by decide +kernel
theorem d_cG_put_29 : decode prog_1_method_10_code 29 = .ok (.invokevirtual 97, 3) := by decide +kernel
theorem d_cG_put_32 : decode prog_1_method_10_code 32 = .ok (.ifCond .ne 11, 3) := by decide +kernel
theorem d_cG_put_35 : decode prog_1_method_10_code 35 = .ok (.new 101, 3) := by decide +kernel
theorem d_cG_put_38 : decode prog_1_method_10_code 38 = .ok (.dup, 1) := by decide +kernel
theorem d_cG_put_39 : decode prog_1_method_10_code 39 = .ok (.invokespecial 103, 3) := by decide +kernel
theorem d_cG_put_42 : decode prog_1_method_10_code 42 = .ok (.athrow, 1) := by decide +kernel
theorem d_cG_put_43 : decode prog_1_method_10_code 43 = .ok (.aload_n 0, 1) := by decide +kernel
theorem d_cG_put_44 : decode prog_1_method_10_code 44 = .ok (.getfield 31, 3) := by decide +kernel
theorem d_cG_put_47 : decode prog_1_method_10_code 47 = .ok (.iload_n 1, 1) := by decide +kernel
theorem d_cG_put_48 : decode prog_1_method_10_code 48 = .ok (.aload_n 0, 1) := by decide +kernel
theorem d_cG_put_49 : decode prog_1_method_10_code 49 = .ok (.getfield 23, 3) := by decide +kernel
theorem d_cG_put_52 : decode prog_1_method_10_code 52 = .ok (.getfield 79, 3) := by decide +kernel
theorem d_cG_put_55 : decode prog_1_method_10_code 55 = .ok (.iload_n 2, 1) := by decide +kernel
theorem d_cG_put_56 : decode prog_1_method_10_code 56 = .ok (.invokevirtual 135, 3) := by decide +kernel
theorem d_cG_put_59 : decode prog_1_method_10_code 59 = .ok (.lastore, 1) := by decide +kernel
theorem d_cG_put_60 : decode prog_1_method_10_code 60 = .ok (.aload_n 0, 1) := by decide +kernel
theorem d_cG_put_61 : decode prog_1_method_10_code 61 = .ok (.getfield 34, 3) := by decide +kernel
theorem d_cG_put_64 : decode prog_1_method_10_code 64 = .ok (.iload_n 1, 1) := by decide +kernel
theorem d_cG_put_65 : decode prog_1_method_10_code 65 = .ok (.aload_n 0, 1) := by decide +kernel
theorem d_cG_put_66 : decode prog_1_method_10_code 66 = .ok (.getfield 23, 3) := by decide +kernel
theorem d_cG_put_69 : decode prog_1_method_10_code 69 = .ok (.getfield 88, 3) := by decide +kernel
theorem d_cG_put_72 : decode prog_1_method_10_code 72 = .ok (.iload_n 3, 1) := by decide +kernel
theorem d_cG_put_73 : decode prog_1_method_10_code 73 = .ok (.invokevirtual 135, 3) := by decide +kernel
theorem d_cG_put_76 : decode prog_1_method_10_code 76 = .ok (.lastore, 1) := by decide +kernel
theorem d_cG_put_77 : decode prog_1_method_10_code 77 = .ok (.return_, 1) := by decide +kernel
def cG_put_J35 (S_35 : CS) : Option (CS × Nat × Unit) := some (S_35, 1, ())
def cG_put (x1 : Int32) (x2 : Int32) (x3 : Int32) (S : CS) : Option (CS × Nat × Unit) := ((cG_isObject x1).bind fun q1 => (if q1 = true then (bd (gR S 0 3) fun r8 => (if kd r8 = 7 then ((cNames_hasNumber (r8 + 1) x2 S).bind fun q15 => (if q15 = true then (bd (gR S 0 3) fun r22 => (if kd r22 = 7 then ((cNames_hasNumber (r22 + 5) x3 S).bind fun q29 => (if q29 = true then (bd (gR S 0 3) fun r49 => (if kd r49 = 7 then ((cNames_nameOf (r49 + 1) x2 S).bind fun q56 => (if inbd x1 10 = true then (bd (pL S 242 (txN x1) q56) fun S59 => (bd (gR S59 0 3) fun r66 => (if kd r66 = 7 then ((cNames_nameOf (r66 + 5) x3 S59).bind fun q73 => (if inbd x1 10 = true then (bd (pL S59 243 (txN x1) q73) fun S76 => some (S76, 0, ())) else none)) else none))) else none)) else none)) else cG_put_J35 S)) else none)) else cG_put_J35 S)) else none)) else cG_put_J35 S))
set_option maxHeartbeats 4000000 in
set_option maxRecDepth 100000 in
theorem M_cG_put {l : Launch} (hT : ∀ e, l.admits e → e.platform.stackTraces = false) {D : va_G} {cA : Nat → ClassId} {b : Nat} {ad : Nat → Nat} {x1 : Int32} {x2 : Int32} {x3 : Int32} {S : CS} {T : MS × (Nat → Int64)} {rr : (CS × Nat × Unit)}  (h : cG_put x1 x2 x3 S = some rr) : MetX l y_cG_put (Cond.code y_cG_put prog_1_method_10_code 4 (Option.none : Option Jvm.ClassFile.FieldType) :: TW) { frames := 7, cells := 1, slots := 6, locals := 120 } (va_Pc [.ref (b + 0), .int x1, .int x2, .int x3] (RpY D cA b ad (S, T))) (QT D cA b ad "java/util/NoSuchElementException" (rr.1, T) rr.2.1 none) 1 6 (Ab b) := by
  refine Ct_ofX (by decide) (Nat.le_of_ble_eq_true rfl) ?_
  intro p e R s m args below meth c ls Q H locs hR hQ hx hb hts hown hml hr hlk hC hY hX hS hl hex
  have hRf : R.frames = 7 := by rw [hR]
  have hRl : R.locals = 120 := by rw [hR]
  have hown : s.vm.findClass "TypeGuard" = some m.cls := hown
  have hl : lv_has ls 4 [(0, .ref (b + 0)), (1, .int x1), (2, .int x2), (3, .int x3)] := hl
  rw [cG_put] at h
  refine lv_iload_n hx hb d_cG_put_0 rfl (lv_at hl 1 rfl) ?_
  obtain ⟨q1, hc1, h⟩ := Option.bind_eq_some_iff.mp h
  refine ck_S (As := [.int x1]) (rest := []) (st1 := [.int (bI q1)]) (M_cG_isObject  hc1) t_393 t_394 t_395 t_1 hx hb hts hown hC hX hS  hml hl.1 ⟨by rw [hRf]; decide, by rw [hRl]; decide⟩ ⟨rfl, rfl⟩ (n := 1) (by decide +kernel) rfl rfl rfl (lv_room (Nat.le_of_ble_eq_true rfl)) d_cG_put_1 (fun H locs hX hS => ?_)
  have J35 : ∀  (H : Heap) (locs : List Loc) (ls : Array Slot), hp D cA b ad (S, T) H → va_S (Ab b) s.heap H locs → lv_has ls 4 [] → cG_put_J35 S = some rr → W p l e R s m args below meth c H locs 0 0 Q (F0 m 35 ls []) := by
    intro  H locs ls  hX hS hl h
    rw [cG_put_J35] at h
    obtain rfl := Option.some.inj h
    exact th_go (k := 1) hat_1 (by decide) rfl hQ hx hb hts hown hC hY hX hS hlk hT hex hml hl.1 ⟨by rw [hRf]; decide, by rw [hRl]; decide, by rw [hR]; decide, by rw [hR]; decide⟩ (Nat.le_of_ble_eq_true rfl) d_cG_put_35 d_cG_put_38 d_cG_put_39 d_cG_put_42
  refine lz_ifeq hx hb d_cG_put_4 (tgt := 35) (by decide) (fun hc => ?_) (fun hc => ?_)
  · rw [if_neg hc] at h
    exact J35  H locs ls  hX hS (lv_sub hl [] rfl) h
  · rw [if_pos hc] at h
    refine lv_aload_n hx hb d_cG_put_7 rfl (lv_at hl 0 rfl) ?_
    refine c_get_0_3 hx hb hts hown hC hX (by rfl) (hts _ t_331) d_cG_put_8 ?_
    obtain ⟨r8, e8, h⟩ := bd_some h
    refine lt_R e8 ?_
    by_cases hkr8 : kd r8 = 7
    rotate_left; · rw [if_neg hkr8] at h; cases h
    rw [if_pos hkr8] at h
    refine c_get_7_0N (k := r8) hx hb hts hown hC hX hkr8 (va_Nw.use rfl (hC.2.1 _ t_186)) d_cG_put_11 ?_
    refine lv_iload_n hx hb d_cG_put_14 rfl (lv_at hl 2 rfl) ?_
    obtain ⟨q15, hc15, h⟩ := Option.bind_eq_some_iff.mp h
    refine ck_V (As := [.int x2]) (rest := []) (st1 := [.int (bI q15)]) (M_cNames_hasNumber (kx_7_1 hkr8) hc15) t_835 t_836 t_837 t_838 t_5 hx hb hts hown hC hX hS (hrc_c8 hC hX (kx_7_1 hkr8)) hml hl.1 ⟨by rw [hRf]; decide, by rw [hRl]; decide⟩ ⟨rfl, rfl⟩ (n := 1) (by decide +kernel) rfl rfl rfl (lv_room (Nat.le_of_ble_eq_true rfl)) d_cG_put_15 (fun H locs hX hS => ?_)
    refine lz_ifeq hx hb d_cG_put_18 (tgt := 35) (by decide) (fun hc => ?_) (fun hc => ?_)
    · rw [if_neg hc] at h
      exact J35  H locs ls  hX hS (lv_sub hl [] rfl) h
    · rw [if_pos hc] at h
      refine lv_aload_n hx hb d_cG_put_21 rfl (lv_at hl 0 rfl) ?_
      refine c_get_0_3 hx hb hts hown hC hX (by rfl) (hts _ t_331) d_cG_put_22 ?_
      obtain ⟨r22, e22, h⟩ := bd_some h
      refine lt_R e22 ?_
      by_cases hkr22 : kd r22 = 7
      rotate_left; · rw [if_neg hkr22] at h; cases h
      rw [if_pos hkr22] at h
      refine c_get_7_2N (k := r22) hx hb hts hown hC hX hkr22 (va_Nw.use rfl (hC.2.1 _ t_191)) d_cG_put_25 ?_
      refine lv_iload_n hx hb d_cG_put_28 rfl (lv_at hl 3 rfl) ?_
      obtain ⟨q29, hc29, h⟩ := Option.bind_eq_some_iff.mp h
      refine ck_V (As := [.int x3]) (rest := []) (st1 := [.int (bI q29)]) (M_cNames_hasNumber (kx_7_5 hkr22) hc29) t_835 t_836 t_837 t_838 t_5 hx hb hts hown hC hX hS (hrc_c8 hC hX (kx_7_5 hkr22)) hml hl.1 ⟨by rw [hRf]; decide, by rw [hRl]; decide⟩ ⟨rfl, rfl⟩ (n := 1) (by decide +kernel) rfl rfl rfl (lv_room (Nat.le_of_ble_eq_true rfl)) d_cG_put_29 (fun H locs hX hS => ?_)
      refine lz_ifne hx hb d_cG_put_32 (tgt := 43) (by decide) (fun hc => ?_) (fun hc => ?_)
      · rw [if_pos hc] at h
        refine lv_aload_n hx hb d_cG_put_43 rfl (lv_at hl 0 rfl) ?_
        refine c_get_0_6 hx hb hts hown hC hX (by rfl) (hts _ t_334) d_cG_put_44 ?_
        refine lv_iload_n hx hb d_cG_put_47 rfl (lv_at hl 1 rfl) ?_
        refine lv_aload_n hx hb d_cG_put_48 rfl (lv_at hl 0 rfl) ?_
        refine c_get_0_3 hx hb hts hown hC hX (by rfl) (hts _ t_331) d_cG_put_49 ?_
        obtain ⟨r49, e49, h⟩ := bd_some h
        refine lt_R e49 ?_
        by_cases hkr49 : kd r49 = 7
        rotate_left; · rw [if_neg hkr49] at h; cases h
        rw [if_pos hkr49] at h
        refine c_get_7_0N (k := r49) hx hb hts hown hC hX hkr49 (va_Nw.use rfl (hC.2.1 _ t_186)) d_cG_put_52 ?_
        refine lv_iload_n hx hb d_cG_put_55 rfl (lv_at hl 2 rfl) ?_
        obtain ⟨q56, hc56, h⟩ := Option.bind_eq_some_iff.mp h
        refine ck_V (As := [.int x2]) (rest := [.int x1, .ref (b + 242)]) (st1 := [.long q56, .int x1, .ref (b + 242)]) (M_cNames_nameOf (kx_7_1 hkr49) hc56) t_899 t_900 t_901 t_902 t_5 hx hb hts hown hC hX hS (hrc_c8 hC hX (kx_7_1 hkr49)) hml hl.1 ⟨by rw [hRf]; decide, by rw [hRl]; decide⟩ ⟨rfl, rfl⟩ (n := 1) (by decide +kernel) rfl rfl rfl (lv_room (Nat.le_of_ble_eq_true rfl)) d_cG_put_56 (fun H locs hX hS => ?_)
        by_cases hg59 : inbd x1 10 = true
        rotate_left; · rw [if_neg hg59] at h; cases h
        rw [if_pos hg59] at h
        refine c_ast_18 (k := 242) (v := q56) hx hb hC hX hS (by rfl) hg59 d_cG_put_59 (fun H locs hX hS => ?_)
        obtain ⟨S59, e59, h⟩ := bd_some h
        rw [← e59] at hX
        refine lv_aload_n hx hb d_cG_put_60 rfl (lv_at hl 0 rfl) ?_
        refine c_get_0_7 hx hb hts hown hC hX (by rfl) (hts _ t_335) d_cG_put_61 ?_
        refine lv_iload_n hx hb d_cG_put_64 rfl (lv_at hl 1 rfl) ?_
        refine lv_aload_n hx hb d_cG_put_65 rfl (lv_at hl 0 rfl) ?_
        refine c_get_0_3 hx hb hts hown hC hX (by rfl) (hts _ t_331) d_cG_put_66 ?_
        obtain ⟨r66, e66, h⟩ := bd_some h
        refine lt_R e66 ?_
        by_cases hkr66 : kd r66 = 7
        rotate_left; · rw [if_neg hkr66] at h; cases h
        rw [if_pos hkr66] at h
        refine c_get_7_2N (k := r66) hx hb hts hown hC hX hkr66 (va_Nw.use rfl (hC.2.1 _ t_191)) d_cG_put_69 ?_
        refine lv_iload_n hx hb d_cG_put_72 rfl (lv_at hl 3 rfl) ?_
        obtain ⟨q73, hc73, h⟩ := Option.bind_eq_some_iff.mp h
        refine ck_V (As := [.int x3]) (rest := [.int x1, .ref (b + 243)]) (st1 := [.long q73, .int x1, .ref (b + 243)]) (M_cNames_nameOf (kx_7_5 hkr66) hc73) t_899 t_900 t_901 t_902 t_5 hx hb hts hown hC hX hS (hrc_c8 hC hX (kx_7_5 hkr66)) hml hl.1 ⟨by rw [hRf]; decide, by rw [hRl]; decide⟩ ⟨rfl, rfl⟩ (n := 1) (by decide +kernel) rfl rfl rfl (lv_room (Nat.le_of_ble_eq_true rfl)) d_cG_put_73 (fun H locs hX hS => ?_)
        by_cases hg76 : inbd x1 10 = true
        rotate_left; · rw [if_neg hg76] at h; cases h
        rw [if_pos hg76] at h
        refine c_ast_19 (k := 243) (v := q73) hx hb hC hX hS (by rfl) hg76 d_cG_put_76 (fun H locs hX hS => ?_)
        obtain ⟨S76, e76, h⟩ := bd_some h
        rw [← e76] at hX
        obtain rfl := Option.some.inj h
        exact rx_v hQ hx hb hr hX hS hlk d_cG_put_77
      · rw [if_neg hc] at h
        exact J35  H locs ls  hX hS (lv_sub hl [] rfl) h
abbrev y_cG_ask : MethodName := ({ cls := "TypeGuard", name := "ask", desc := "(III)Z" } : Jvm.MethodName)
theorem d_cG_ask_0 : decode prog_1_method_12_code 0 = .ok (.aload_n 0, 1) := by decide +kernel
theorem d_cG_ask_1 : decode prog_1_method_12_code 1 = .ok (.iload_n 1, 1) := by decide +kernel
theorem d_cG_ask_2 : decode prog_1_method_12_code 2 = .ok (.iload_n 2, 1) := by decide +kernel
theorem d_cG_ask_3 : decode prog_1_method_12_code 3 = .ok (.invokevirtual 152, 3) := by decide +kernel
theorem d_cG_ask_6 : decode prog_1_method_12_code 6 = .ok (.ifCond .ne 11, 3) := by decide +kernel
theorem d_cG_ask_9 : decode prog_1_method_12_code 9 = .ok (.new 101, 3) := by decide +kernel
theorem d_cG_ask_12 : decode prog_1_method_12_code 12 = .ok (.dup, 1) := by decide +kernel
theorem d_cG_ask_13 : decode prog_1_method_12_code 13 = .ok (.invokespecial 103, 3) := by decide +kernel
theorem d_cG_ask_16 : decode prog_1_method_12_code 16 = .ok (.athrow, 1) := by decide +kernel
theorem d_cG_ask_17 : decode prog_1_method_12_code 17 = .ok (.aload_n 0, 1) := by decide +kernel
theorem d_cG_ask_18 : decode prog_1_method_12_code 18 = .ok (.aload_n 0, 1) := by decide +kernel
theorem d_cG_ask_19 : decode prog_1_method_12_code 19 = .ok (.iload_n 1, 1) := by decide +kernel
theorem d_cG_ask_20 : decode prog_1_method_12_code 20 = .ok (.invokevirtual 142, 3) := by decide +kernel
theorem d_cG_ask_23 : decode prog_1_method_12_code 23 = .ok (.aload_n 0, 1) := by decide +kernel
theorem d_cG_ask_24 : decode prog_1_method_12_code 24 = .ok (.iload_n 2, 1) := by decide +kernel
theorem d_cG_ask_25 : decode prog_1_method_12_code 25 = .ok (.invokevirtual 146, 3) := by decide +kernel
theorem d_cG_ask_28 : decode prog_1_method_12_code 28 = .ok (.aload_n 0, 1) := by decide +kernel
theorem d_cG_ask_29 : decode prog_1_method_12_code 29 = .ok (.iload_n 2, 1) := by decide +kernel
theorem d_cG_ask_30 : decode prog_1_method_12_code 30 = .ok (.invokevirtual 149, 3) := by decide +kernel
theorem d_cG_ask_33 : decode prog_1_method_12_code 33 = .ok (.iload_n 3, 1) := by decide +kernel
theorem d_cG_ask_34 : decode prog_1_method_12_code 34 = .ok (.invokevirtual 156, 3) := by decide +kernel
theorem d_cG_ask_37 : decode prog_1_method_12_code 37 = .ok (.ireturn, 1) := by decide +kernel
def cG_ask (x1 : Int32) (x2 : Int32) (x3 : Int32) (S : CS) : Option (CS × Nat × Bool) := ((cG_areLabelled x1 x2 S).bind fun q3 => (if q3 = true then ((cG_typeOfProcess x1 S).bind fun q20 => ((cG_typeOfObject x2 S).bind fun q25 => ((cG_classOfObject x2 S).bind fun q30 => ((cG_isGranted q20 q25 q30 x3 S).bind fun q34 => some (q34.1, 0, q34.2))))) else some (S, 1, false)))
set_option maxHeartbeats 4000000 in
set_option maxRecDepth 100000 in
theorem M_cG_ask {l : Launch} (hT : ∀ e, l.admits e → e.platform.stackTraces = false) {D : va_G} {cA : Nat → ClassId} {b : Nat} {ad : Nat → Nat} {x1 : Int32} {x2 : Int32} {x3 : Int32} {S : CS} {T : MS × (Nat → Int64)} {rr : (CS × Nat × Bool)}  (h : cG_ask x1 x2 x3 S = some rr) : MetX l y_cG_ask (Cond.code y_cG_ask prog_1_method_12_code 4 (Option.some Jvm.ClassFile.FieldType.boolean) :: TW) { frames := 7, cells := 1, slots := 6, locals := 143 } (va_Pc [.ref (b + 0), .int x1, .int x2, .int x3] (RpY D cA b ad (S, T))) (QT D cA b ad "java/util/NoSuchElementException" (rr.1, T) rr.2.1 (some (.int (bI rr.2.2)))) 1 6 (Ab b) := by
  refine Ct_ofX (by decide) (Nat.le_of_ble_eq_true rfl) ?_
  intro p e R s m args below meth c ls Q H locs hR hQ hx hb hts hown hml hr hlk hC hY hX hS hl hex
  have hRf : R.frames = 7 := by rw [hR]
  have hRl : R.locals = 143 := by rw [hR]
  have hown : s.vm.findClass "TypeGuard" = some m.cls := hown
  have hl : lv_has ls 4 [(0, .ref (b + 0)), (1, .int x1), (2, .int x2), (3, .int x3)] := hl
  rw [cG_ask] at h
  refine lv_aload_n hx hb d_cG_ask_0 rfl (lv_at hl 0 rfl) ?_
  refine lv_iload_n hx hb d_cG_ask_1 rfl (lv_at hl 1 rfl) ?_
  refine lv_iload_n hx hb d_cG_ask_2 rfl (lv_at hl 2 rfl) ?_
  obtain ⟨q3, hc3, h⟩ := Option.bind_eq_some_iff.mp h
  refine ck_V (As := [.int x1, .int x2]) (rest := []) (st1 := [.int (bI q3)]) (M_cG_areLabelled  hc3) t_918 t_920 p_33 t_921 t_1 hx hb hts hown hC hX hS (hrc_c0 hC hX (by rfl)) hml hl.1 ⟨by rw [hRf]; decide, by rw [hRl]; decide⟩ ⟨rfl, rfl⟩ (n := 2) (by decide +kernel) rfl rfl rfl (lv_room (Nat.le_of_ble_eq_true rfl)) d_cG_ask_3 (fun H locs hX hS => ?_)
  refine lz_ifne hx hb d_cG_ask_6 (tgt := 17) (by decide) (fun hc => ?_) (fun hc => ?_)
  · rw [if_pos hc] at h
    refine lv_aload_n hx hb d_cG_ask_17 rfl (lv_at hl 0 rfl) ?_
    refine lv_aload_n hx hb d_cG_ask_18 rfl (lv_at hl 0 rfl) ?_
    refine lv_iload_n hx hb d_cG_ask_19 rfl (lv_at hl 1 rfl) ?_
    obtain ⟨q20, hc20, h⟩ := Option.bind_eq_some_iff.mp h
    refine ck_V (As := [.int x1]) (rest := [.ref (b + 0)]) (st1 := [.int q20, .ref (b + 0)]) (M_cG_typeOfProcess  hc20) t_378 t_380 p_0 t_381 t_1 hx hb hts hown hC hX hS (hrc_c0 hC hX (by rfl)) hml hl.1 ⟨by rw [hRf]; decide, by rw [hRl]; decide⟩ ⟨rfl, rfl⟩ (n := 1) (by decide +kernel) rfl rfl rfl (lv_room (Nat.le_of_ble_eq_true rfl)) d_cG_ask_20 (fun H locs hX hS => ?_)
    refine lv_aload_n hx hb d_cG_ask_23 rfl (lv_at hl 0 rfl) ?_
    refine lv_iload_n hx hb d_cG_ask_24 rfl (lv_at hl 2 rfl) ?_
    obtain ⟨q25, hc25, h⟩ := Option.bind_eq_some_iff.mp h
    refine ck_V (As := [.int x2]) (rest := [.int q20, .ref (b + 0)]) (st1 := [.int q25, .int q20, .ref (b + 0)]) (M_cG_typeOfObject  hc25) t_389 t_391 p_1 t_392 t_1 hx hb hts hown hC hX hS (hrc_c0 hC hX (by rfl)) hml hl.1 ⟨by rw [hRf]; decide, by rw [hRl]; decide⟩ ⟨rfl, rfl⟩ (n := 1) (by decide +kernel) rfl rfl rfl (lv_room (Nat.le_of_ble_eq_true rfl)) d_cG_ask_25 (fun H locs hX hS => ?_)
    refine lv_aload_n hx hb d_cG_ask_28 rfl (lv_at hl 0 rfl) ?_
    refine lv_iload_n hx hb d_cG_ask_29 rfl (lv_at hl 2 rfl) ?_
    obtain ⟨q30, hc30, h⟩ := Option.bind_eq_some_iff.mp h
    refine ck_V (As := [.int x2]) (rest := [.int q25, .int q20, .ref (b + 0)]) (st1 := [.int q30, .int q25, .int q20, .ref (b + 0)]) (M_cG_classOfObject  hc30) t_396 t_398 p_2 t_399 t_1 hx hb hts hown hC hX hS (hrc_c0 hC hX (by rfl)) hml hl.1 ⟨by rw [hRf]; decide, by rw [hRl]; decide⟩ ⟨rfl, rfl⟩ (n := 1) (by decide +kernel) rfl rfl rfl (lv_room (Nat.le_of_ble_eq_true rfl)) d_cG_ask_30 (fun H locs hX hS => ?_)
    refine lv_iload_n hx hb d_cG_ask_33 rfl (lv_at hl 3 rfl) ?_
    obtain ⟨q34, hc34, h⟩ := Option.bind_eq_some_iff.mp h
    refine ck_V (As := [.int q20, .int q25, .int q30, .int x3]) (rest := []) (st1 := [.int (bI q34.2)]) (M_cG_isGranted  hc34) t_922 t_924 p_34 t_925 t_1 hx hb hts hown hC hX hS (hrc_c0 hC hX (by rfl)) hml hl.1 ⟨by rw [hRf]; decide, by rw [hRl]; decide⟩ ⟨rfl, rfl⟩ (n := 4) (by decide +kernel) rfl rfl rfl (lv_room (Nat.le_of_ble_eq_true rfl)) d_cG_ask_34 (fun H locs hX hS => ?_)
    obtain rfl := Option.some.inj h
    exact rx_z hQ hx hb hr hX hS hlk d_cG_ask_37
  · rw [if_neg hc] at h
    obtain rfl := Option.some.inj h
    exact th_go (k := 1) hat_1 (by decide) rfl hQ hx hb hts hown hC hY hX hS hlk hT hex hml hl.1 ⟨by rw [hRf]; decide, by rw [hRl]; decide, by rw [hR]; decide, by rw [hR]; decide⟩ (Nat.le_of_ble_eq_true rfl) d_cG_ask_9 d_cG_ask_12 d_cG_ask_13 d_cG_ask_16
abbrev y_cG_run : MethodName := ({ cls := "TypeGuard", name := "run", desc := "(II)I" } : Jvm.MethodName)
theorem d_cG_run_0 : decode prog_1_method_13_code 0 = .ok (.aload_n 0, 1) := by decide +kernel
theorem d_cG_run_1 : decode prog_1_method_13_code 1 = .ok (.iload_n 1, 1) := by decide +kernel
theorem d_cG_run_2 : decode prog_1_method_13_code 2 = .ok (.iload_n 2, 1) := by decide +kernel
theorem d_cG_run_3 : decode prog_1_method_13_code 3 = .ok (.invokevirtual 152, 3) := by decide +kernel
theorem d_cG_run_6 : decode prog_1_method_13_code 6 = .ok (.ifCond .ne 11, 3) := by decide +kernel
theorem d_cG_run_9 : decode prog_1_method_13_code 9 = .ok (.new 101, 3) := by decide +kernel
theorem d_cG_run_12 : decode prog_1_method_13_code 12 = .ok (.dup, 1) := by decide +kernel
theorem d_cG_run_13 : decode prog_1_method_13_code 13 = .ok (.invokespecial 103, 3) := by decide +kernel
theorem d_cG_run_16 : decode prog_1_method_13_code 16 = .ok (.athrow, 1) := by decide +kernel
theorem d_cG_run_17 : decode prog_1_method_13_code 17 = .ok (.aload_n 0, 1) := by decide +kernel
theorem d_cG_run_18 : decode prog_1_method_13_code 18 = .ok (.iload_n 1, 1) := by decide +kernel
theorem d_cG_run_19 : decode prog_1_method_13_code 19 = .ok (.invokevirtual 142, 3) := by decide +kernel
theorem d_cG_run_22 : decode prog_1_method_13_code 22 = .ok (.istore_n 3, 1) := by decide +kernel
theorem d_cG_run_23 : decode prog_1_method_13_code 23 = .ok (.aload_n 0, 1) := by decide +kernel
theorem d_cG_run_24 : decode prog_1_method_13_code 24 = .ok (.iload_n 2, 1) := by decide +kernel
theorem d_cG_run_25 : decode prog_1_method_13_code 25 = .ok (.invokevirtual 146, 3) := by decide +kernel
theorem d_cG_run_28 : decode prog_1_method_13_code 28 = .ok (.istore 4, 2) := by decide +kernel
theorem d_cG_run_30 : decode prog_1_method_13_code 30 = .ok (.aload_n 0, 1) := by decide +kernel
theorem d_cG_run_31 : decode prog_1_method_13_code 31 = .ok (.iload_n 2, 1) := by decide +kernel
theorem d_cG_run_32 : decode prog_1_method_13_code 32 = .ok (.invokevirtual 149, 3) := by decide +kernel
theorem d_cG_run_35 : decode prog_1_method_13_code 35 = .ok (.istore 5, 2) := by decide +kernel
theorem d_cG_run_37 : decode prog_1_method_13_code 37 = .ok (.aload_n 0, 1) := by decide +kernel
theorem d_cG_run_38 : decode prog_1_method_13_code 38 = .ok (.iload_n 3, 1) := by decide +kernel
theorem d_cG_run_39 : decode prog_1_method_13_code 39 = .ok (.iload 4, 2) := by decide +kernel
theorem d_cG_run_41 : decode prog_1_method_13_code 41 = .ok (.iload 5, 2) := by decide +kernel
theorem d_cG_run_43 : decode prog_1_method_13_code 43 = .ok (.iconst 0, 1) := by decide +kernel
theorem d_cG_run_44 : decode prog_1_method_13_code 44 = .ok (.invokevirtual 156, 3) := by decide +kernel
theorem d_cG_run_47 : decode prog_1_method_13_code 47 = .ok (.ifCond .ne 11, 3) := by decide +kernel
theorem d_cG_run_50 : decode prog_1_method_13_code 50 = .ok (.new 160, 3) := by decide +kernel
theorem d_cG_run_53 : decode prog_1_method_13_code 53 = .ok (.dup, 1) := by decide +kernel
theorem d_cG_run_54 : decode prog_1_method_13_code 54 = .ok (.invokespecial 162, 3) := by decide +kernel
theorem d_cG_run_57 : decode prog_1_method_13_code 57 = .ok (.athrow, 1) := by decide +kernel
theorem d_cG_run_58 : decode prog_1_method_13_code 58 = .ok (.aload_n 0, 1) := by decide +kernel
theorem d_cG_run_59 : decode prog_1_method_13_code 59 = .ok (.getfield 23, 3) := by decide +kernel
theorem d_cG_run_62 : decode prog_1_method_13_code 62 = .ok (.iload_n 3, 1) := by decide +kernel
theorem d_cG_run_63 : decode prog_1_method_13_code 63 = .ok (.iload 4, 2) := by decide +kernel
theorem d_cG_run_65 : decode prog_1_method_13_code 65 = .ok (.iload 5, 2) := by decide +kernel
theorem d_cG_run_67 : decode prog_1_method_13_code 67 = .ok (.iload_n 3, 1) := by decide +kernel
theorem d_cG_run_68 : decode prog_1_method_13_code 68 = .ok (.invokevirtual 163, 3) := by decide +kernel
theorem d_cG_run_71 : decode prog_1_method_13_code 71 = .ok (.istore 6, 2) := by decide +kernel
theorem d_cG_run_73 : decode prog_1_method_13_code 73 = .ok (.iload 6, 2) := by decide +kernel
theorem d_cG_run_75 : decode prog_1_method_13_code 75 = .ok (.iload_n 3, 1) := by decide +kernel
theorem d_cG_run_76 : decode prog_1_method_13_code 76 = .ok (.if_icmp .eq 25, 3) := by decide +kernel
theorem d_cG_run_79 : decode prog_1_method_13_code 79 = .ok (.aload_n 0, 1) := by decide +kernel
theorem d_cG_run_80 : decode prog_1_method_13_code 80 = .ok (.iload 6, 2) := by decide +kernel
theorem d_cG_run_82 : decode prog_1_method_13_code 82 = .ok (.iload 4, 2) := by decide +kernel
theorem d_cG_run_84 : decode prog_1_method_13_code 84 = .ok (.iload 5, 2) := by decide +kernel
theorem d_cG_run_86 : decode prog_1_method_13_code 86 = .ok (.iconst 1, 1) := by decide +kernel
theorem d_cG_run_87 : decode prog_1_method_13_code 87 = .ok (.invokevirtual 156, 3) := by decide +kernel
theorem d_cG_run_90 : decode prog_1_method_13_code 90 = .ok (.ifCond .ne 11, 3) := by decide +kernel
theorem d_cG_run_93 : decode prog_1_method_13_code 93 = .ok (.new 160, 3) := by decide +kernel
theorem d_cG_run_96 : decode prog_1_method_13_code 96 = .ok (.dup, 1) := by decide +kernel
theorem d_cG_run_97 : decode prog_1_method_13_code 97 = .ok (.invokespecial 162, 3) := by decide +kernel
theorem d_cG_run_100 : decode prog_1_method_13_code 100 = .ok (.athrow, 1) := by decide +kernel
theorem d_cG_run_101 : decode prog_1_method_13_code 101 = .ok (.aload_n 0, 1) := by decide +kernel
theorem d_cG_run_102 : decode prog_1_method_13_code 102 = .ok (.getfield 27, 3) := by decide +kernel
theorem d_cG_run_105 : decode prog_1_method_13_code 105 = .ok (.iload_n 1, 1) := by decide +kernel
theorem d_cG_run_106 : decode prog_1_method_13_code 106 = .ok (.aload_n 0, 1) := by decide +kernel
theorem d_cG_run_107 : decode prog_1_method_13_code 107 = .ok (.getfield 23, 3) := by decide +kernel
theorem d_cG_run_110 : decode prog_1_method_13_code 110 = .ok (.getfield 79, 3) := by decide +kernel
theorem d_cG_run_113 : decode prog_1_method_13_code 113 = .ok (.iload 6, 2) := by decide +kernel
theorem d_cG_run_115 : decode prog_1_method_13_code 115 = .ok (.invokevirtual 135, 3) := by decide +kernel
theorem d_cG_run_118 : decode prog_1_method_13_code 118 = .ok (.lastore, 1) := by decide +kernel
theorem d_cG_run_119 : decode prog_1_method_13_code 119 = .ok (.iload 6, 2) := by decide +kernel
theorem d_cG_run_121 : decode prog_1_method_13_code 121 = .ok (.ireturn, 1) := by decide +kernel
def cG_run_J101 (v1_101 : Int32) (v6_101 : Int32) (S_101 : CS) : Option (CS × Nat × Int32) := (bd (gR S_101 0 3) fun r107 => (if kd r107 = 7 then ((cNames_nameOf (r107 + 1) v6_101 S_101).bind fun q115 => (if inbd v1_101 6 = true then (bd (pL S_101 241 (txN v1_101) q115) fun S118 => some (S118, 0, v6_101)) else none)) else none))
def cG_run (x1 : Int32) (x2 : Int32) (S : CS) : Option (CS × Nat × Int32) := ((cG_areLabelled x1 x2 S).bind fun q3 => (if q3 = true then ((cG_typeOfProcess x1 S).bind fun q19 => ((cG_typeOfObject x2 S).bind fun q25 => ((cG_classOfObject x2 S).bind fun q32 => ((cG_isGranted q19 q25 q32 0 S).bind fun q44 => (if q44.2 = true then (bd (gR q44.1 0 3) fun r59 => (if kd r59 = 7 then ((cPolicy_moved r59 q19 q25 q32 q19 q44.1).bind fun q68 => (if q68 = q19 then cG_run_J101 x1 q68 q44.1 else ((cG_isGranted q68 q25 q32 1 q44.1).bind fun q87 => (if q87.2 = true then cG_run_J101 x1 q68 q87.1 else some (q87.1, 2, 0))))) else none)) else some (q44.1, 2, 0)))))) else some (S, 1, 0)))
set_option maxHeartbeats 4000000 in
set_option maxRecDepth 100000 in
theorem M_cG_run {l : Launch} (hT : ∀ e, l.admits e → e.platform.stackTraces = false) {D : va_G} {cA : Nat → ClassId} {b : Nat} {ad : Nat → Nat} {x1 : Int32} {x2 : Int32} {S : CS} {T : MS × (Nat → Int64)} {rr : (CS × Nat × Int32)}  (h : cG_run x1 x2 S = some rr) : MetX l y_cG_run (Cond.code y_cG_run prog_1_method_13_code 7 (Option.some Jvm.ClassFile.FieldType.int) :: TW) { frames := 7, cells := 1, slots := 6, locals := 143 } (va_Pc [.ref (b + 0), .int x1, .int x2] (RpY D cA b ad (S, T))) (QT D cA b ad "java/util/NoSuchElementException" (rr.1, T) rr.2.1 (some (.int rr.2.2))) 1 6 (Ab b) := by
  refine Ct_ofX (by decide) (Nat.le_of_ble_eq_true rfl) ?_
  intro p e R s m args below meth c ls Q H locs hR hQ hx hb hts hown hml hr hlk hC hY hX hS hl hex
  have hRf : R.frames = 7 := by rw [hR]
  have hRl : R.locals = 143 := by rw [hR]
  have hown : s.vm.findClass "TypeGuard" = some m.cls := hown
  have hl : lv_has ls 7 [(0, .ref (b + 0)), (1, .int x1), (2, .int x2)] := hl
  rw [cG_run] at h
  refine lv_aload_n hx hb d_cG_run_0 rfl (lv_at hl 0 rfl) ?_
  refine lv_iload_n hx hb d_cG_run_1 rfl (lv_at hl 1 rfl) ?_
  refine lv_iload_n hx hb d_cG_run_2 rfl (lv_at hl 2 rfl) ?_
  obtain ⟨q3, hc3, h⟩ := Option.bind_eq_some_iff.mp h
  refine ck_V (As := [.int x1, .int x2]) (rest := []) (st1 := [.int (bI q3)]) (M_cG_areLabelled  hc3) t_918 t_920 p_33 t_921 t_1 hx hb hts hown hC hX hS (hrc_c0 hC hX (by rfl)) hml hl.1 ⟨by rw [hRf]; decide, by rw [hRl]; decide⟩ ⟨rfl, rfl⟩ (n := 2) (by decide +kernel) rfl rfl rfl (lv_room (Nat.le_of_ble_eq_true rfl)) d_cG_run_3 (fun H locs hX hS => ?_)
  refine lz_ifne hx hb d_cG_run_6 (tgt := 17) (by decide) (fun hc => ?_) (fun hc => ?_)
  · rw [if_pos hc] at h
    refine lv_aload_n hx hb d_cG_run_17 rfl (lv_at hl 0 rfl) ?_
    refine lv_iload_n hx hb d_cG_run_18 rfl (lv_at hl 1 rfl) ?_
    obtain ⟨q19, hc19, h⟩ := Option.bind_eq_some_iff.mp h
    refine ck_V (As := [.int x1]) (rest := []) (st1 := [.int q19]) (M_cG_typeOfProcess  hc19) t_378 t_380 p_0 t_381 t_1 hx hb hts hown hC hX hS (hrc_c0 hC hX (by rfl)) hml hl.1 ⟨by rw [hRf]; decide, by rw [hRl]; decide⟩ ⟨rfl, rfl⟩ (n := 1) (by decide +kernel) rfl rfl rfl (lv_room (Nat.le_of_ble_eq_true rfl)) d_cG_run_19 (fun H locs hX hS => ?_)
    refine lv_istore_n (lv' := [(3, .int q19), (0, .ref (b + 0)), (1, .int x1), (2, .int x2)]) hx hb d_cG_run_22 rfl hl (by decide) rfl (fun ls hl => ?_)
    refine lv_aload_n hx hb d_cG_run_23 rfl (lv_at hl 1 rfl) ?_
    refine lv_iload_n hx hb d_cG_run_24 rfl (lv_at hl 3 rfl) ?_
    obtain ⟨q25, hc25, h⟩ := Option.bind_eq_some_iff.mp h
    refine ck_V (As := [.int x2]) (rest := []) (st1 := [.int q25]) (M_cG_typeOfObject  hc25) t_389 t_391 p_1 t_392 t_1 hx hb hts hown hC hX hS (hrc_c0 hC hX (by rfl)) hml hl.1 ⟨by rw [hRf]; decide, by rw [hRl]; decide⟩ ⟨rfl, rfl⟩ (n := 1) (by decide +kernel) rfl rfl rfl (lv_room (Nat.le_of_ble_eq_true rfl)) d_cG_run_25 (fun H locs hX hS => ?_)
    refine lv_istore (lv' := [(4, .int q25), (3, .int q19), (0, .ref (b + 0)), (1, .int x1), (2, .int x2)]) hx hb d_cG_run_28 hl (by decide) rfl (fun ls hl => ?_)
    refine lv_aload_n hx hb d_cG_run_30 rfl (lv_at hl 2 rfl) ?_
    refine lv_iload_n hx hb d_cG_run_31 rfl (lv_at hl 4 rfl) ?_
    obtain ⟨q32, hc32, h⟩ := Option.bind_eq_some_iff.mp h
    refine ck_V (As := [.int x2]) (rest := []) (st1 := [.int q32]) (M_cG_classOfObject  hc32) t_396 t_398 p_2 t_399 t_1 hx hb hts hown hC hX hS (hrc_c0 hC hX (by rfl)) hml hl.1 ⟨by rw [hRf]; decide, by rw [hRl]; decide⟩ ⟨rfl, rfl⟩ (n := 1) (by decide +kernel) rfl rfl rfl (lv_room (Nat.le_of_ble_eq_true rfl)) d_cG_run_32 (fun H locs hX hS => ?_)
    refine lv_istore (lv' := [(5, .int q32), (4, .int q25), (3, .int q19), (0, .ref (b + 0)), (1, .int x1), (2, .int x2)]) hx hb d_cG_run_35 hl (by decide) rfl (fun ls hl => ?_)
    refine lv_aload_n hx hb d_cG_run_37 rfl (lv_at hl 3 rfl) ?_
    refine lv_iload_n hx hb d_cG_run_38 rfl (lv_at hl 2 rfl) ?_
    refine lv_iload hx hb d_cG_run_39 (lv_at hl 1 rfl) ?_
    refine lv_iload hx hb d_cG_run_41 (lv_at hl 0 rfl) ?_
    refine lv_iconst (v := 0) hx hb d_cG_run_43 (by decide) ?_
    obtain ⟨q44, hc44, h⟩ := Option.bind_eq_some_iff.mp h
    refine ck_V (As := [.int q19, .int q25, .int q32, .int 0]) (rest := []) (st1 := [.int (bI q44.2)]) (M_cG_isGranted  hc44) t_922 t_924 p_34 t_925 t_1 hx hb hts hown hC hX hS (hrc_c0 hC hX (by rfl)) hml hl.1 ⟨by rw [hRf]; decide, by rw [hRl]; decide⟩ ⟨rfl, rfl⟩ (n := 4) (by decide +kernel) rfl rfl rfl (lv_room (Nat.le_of_ble_eq_true rfl)) d_cG_run_44 (fun H locs hX hS => ?_)
    refine lz_ifne hx hb d_cG_run_47 (tgt := 58) (by decide) (fun hc => ?_) (fun hc => ?_)
    · rw [if_pos hc] at h
      refine lv_aload_n hx hb d_cG_run_58 rfl (lv_at hl 3 rfl) ?_
      refine c_get_0_3 hx hb hts hown hC hX (by rfl) (hts _ t_331) d_cG_run_59 ?_
      obtain ⟨r59, e59, h⟩ := bd_some h
      refine lt_R e59 ?_
      by_cases hkr59 : kd r59 = 7
      rotate_left; · rw [if_neg hkr59] at h; cases h
      rw [if_pos hkr59] at h
      refine lv_iload_n hx hb d_cG_run_62 rfl (lv_at hl 2 rfl) ?_
      refine lv_iload hx hb d_cG_run_63 (lv_at hl 1 rfl) ?_
      refine lv_iload hx hb d_cG_run_65 (lv_at hl 0 rfl) ?_
      refine lv_iload_n hx hb d_cG_run_67 rfl (lv_at hl 2 rfl) ?_
      obtain ⟨q68, hc68, h⟩ := Option.bind_eq_some_iff.mp h
      refine ck_V (As := [.int q19, .int q25, .int q32, .int q19]) (rest := []) (st1 := [.int q68]) (M_cPolicy_moved hkr59 hc68) t_970 t_971 t_972 t_973 t_4 hx hb hts hown hC hX hS (hrc_c7 hC hX hkr59) hml hl.1 ⟨by rw [hRf]; decide, by rw [hRl]; decide⟩ ⟨rfl, rfl⟩ (n := 4) (by decide +kernel) rfl rfl rfl (lv_room (Nat.le_of_ble_eq_true rfl)) d_cG_run_68 (fun H locs hX hS => ?_)
      refine lv_istore (lv' := [(6, .int q68), (5, .int q32), (4, .int q25), (3, .int q19), (0, .ref (b + 0)), (1, .int x1), (2, .int x2)]) hx hb d_cG_run_71 hl (by decide) rfl (fun ls hl => ?_)
      refine lv_iload hx hb d_cG_run_73 (lv_at hl 0 rfl) ?_
      refine lv_iload_n hx hb d_cG_run_75 rfl (lv_at hl 3 rfl) ?_
      have J101 : ∀ (S_101 : CS) (H : Heap) (locs : List Loc) (ls : Array Slot), hp D cA b ad (S_101, T) H → va_S (Ab b) s.heap H locs → lv_has ls 7 [(0, .ref (b + 0)), (1, .int x1), (6, .int q68)] → cG_run_J101 x1 q68 S_101 = some rr → W p l e R s m args below meth c H locs 0 0 Q (F0 m 101 ls []) := by
        intro S_101 H locs ls  hX hS hl h
        rw [cG_run_J101] at h
        refine lv_aload_n hx hb d_cG_run_101 rfl (lv_at hl 0 rfl) ?_
        refine c_get_0_5 hx hb hts hown hC hX (by rfl) (hts _ t_333) d_cG_run_102 ?_
        refine lv_iload_n hx hb d_cG_run_105 rfl (lv_at hl 1 rfl) ?_
        refine lv_aload_n hx hb d_cG_run_106 rfl (lv_at hl 0 rfl) ?_
        refine c_get_0_3 hx hb hts hown hC hX (by rfl) (hts _ t_331) d_cG_run_107 ?_
        obtain ⟨r107, e107, h⟩ := bd_some h
        refine lt_R e107 ?_
        by_cases hkr107 : kd r107 = 7
        rotate_left; · rw [if_neg hkr107] at h; cases h
        rw [if_pos hkr107] at h
        refine c_get_7_0N (k := r107) hx hb hts hown hC hX hkr107 (va_Nw.use rfl (hC.2.1 _ t_186)) d_cG_run_110 ?_
        refine lv_iload hx hb d_cG_run_113 (lv_at hl 2 rfl) ?_
        obtain ⟨q115, hc115, h⟩ := Option.bind_eq_some_iff.mp h
        refine ck_V (As := [.int q68]) (rest := [.int x1, .ref (b + 241)]) (st1 := [.long q115, .int x1, .ref (b + 241)]) (M_cNames_nameOf (kx_7_1 hkr107) hc115) t_899 t_900 t_901 t_902 t_5 hx hb hts hown hC hX hS (hrc_c8 hC hX (kx_7_1 hkr107)) hml hl.1 ⟨by rw [hRf]; decide, by rw [hRl]; decide⟩ ⟨rfl, rfl⟩ (n := 1) (by decide +kernel) rfl rfl rfl (lv_room (Nat.le_of_ble_eq_true rfl)) d_cG_run_115 (fun H locs hX hS => ?_)
        by_cases hg118 : inbd x1 6 = true
        rotate_left; · rw [if_neg hg118] at h; cases h
        rw [if_pos hg118] at h
        refine c_ast_17 (k := 241) (v := q115) hx hb hC hX hS (by rfl) hg118 d_cG_run_118 (fun H locs hX hS => ?_)
        obtain ⟨S118, e118, h⟩ := bd_some h
        rw [← e118] at hX
        refine lv_iload hx hb d_cG_run_119 (lv_at hl 2 rfl) ?_
        obtain rfl := Option.some.inj h
        exact rx_i hQ hx hb hr hX hS hlk d_cG_run_121
      refine lv_icmp_eq hx hb d_cG_run_76 (tgt := 101) (by decide) (fun hc => ?_) (fun hc => ?_)
      · rw [if_pos hc] at h
        exact J101 q44.1 H locs ls  hX hS (lv_sub hl [4, 5, 0] rfl) h
      · rw [if_neg hc] at h
        refine lv_aload_n hx hb d_cG_run_79 rfl (lv_at hl 4 rfl) ?_
        refine lv_iload hx hb d_cG_run_80 (lv_at hl 0 rfl) ?_
        refine lv_iload hx hb d_cG_run_82 (lv_at hl 2 rfl) ?_
        refine lv_iload hx hb d_cG_run_84 (lv_at hl 1 rfl) ?_
        refine lv_iconst (v := 1) hx hb d_cG_run_86 (by decide) ?_
        obtain ⟨q87, hc87, h⟩ := Option.bind_eq_some_iff.mp h
        refine ck_V (As := [.int q68, .int q25, .int q32, .int 1]) (rest := []) (st1 := [.int (bI q87.2)]) (M_cG_isGranted  hc87) t_922 t_924 p_34 t_925 t_1 hx hb hts hown hC hX hS (hrc_c0 hC hX (by rfl)) hml hl.1 ⟨by rw [hRf]; decide, by rw [hRl]; decide⟩ ⟨rfl, rfl⟩ (n := 4) (by decide +kernel) rfl rfl rfl (lv_room (Nat.le_of_ble_eq_true rfl)) d_cG_run_87 (fun H locs hX hS => ?_)
        refine lz_ifne hx hb d_cG_run_90 (tgt := 101) (by decide) (fun hc => ?_) (fun hc => ?_)
        · rw [if_pos hc] at h
          exact J101 q87.1 H locs ls  hX hS (lv_sub hl [4, 5, 0] rfl) h
        · rw [if_neg hc] at h
          obtain rfl := Option.some.inj h
          exact th_go (k := 2) hat_2 (by decide) rfl hQ hx hb hts hown hC hY hX hS hlk hT hex hml hl.1 ⟨by rw [hRf]; decide, by rw [hRl]; decide, by rw [hR]; decide, by rw [hR]; decide⟩ (Nat.le_of_ble_eq_true rfl) d_cG_run_93 d_cG_run_96 d_cG_run_97 d_cG_run_100
    · rw [if_neg hc] at h
      obtain rfl := Option.some.inj h
      exact th_go (k := 2) hat_2 (by decide) rfl hQ hx hb hts hown hC hY hX hS hlk hT hex hml hl.1 ⟨by rw [hRf]; decide, by rw [hRl]; decide, by rw [hR]; decide, by rw [hR]; decide⟩ (Nat.le_of_ble_eq_true rfl) d_cG_run_50 d_cG_run_53 d_cG_run_54 d_cG_run_57
  · rw [if_neg hc] at h
    obtain rfl := Option.some.inj h
    exact th_go (k := 1) hat_1 (by decide) rfl hQ hx hb hts hown hC hY hX hS hlk hT hex hml hl.1 ⟨by rw [hRf]; decide, by rw [hRl]; decide, by rw [hR]; decide, by rw [hR]; decide⟩ (Nat.le_of_ble_eq_true rfl) d_cG_run_9 d_cG_run_12 d_cG_run_13 d_cG_run_16
abbrev y_cG_make : MethodName := ({ cls := "TypeGuard", name := "make", desc := "(III)I" } : Jvm.MethodName)
theorem d_cG_make_0 : decode prog_1_method_14_code 0 = .ok (.aload_n 0, 1) := by decide +kernel
theorem d_cG_make_1 : decode prog_1_method_14_code 1 = .ok (.iload_n 1, 1) := by decide +kernel
theorem d_cG_make_2 : decode prog_1_method_14_code 2 = .ok (.iload_n 2, 1) := by decide +kernel
theorem d_cG_make_3 : decode prog_1_method_14_code 3 = .ok (.invokevirtual 152, 3) := by decide +kernel
theorem d_cG_make_6 : decode prog_1_method_14_code 6 = .ok (.ifCond .eq 10, 3) := by decide +kernel
theorem d_cG_make_9 : decode prog_1_method_14_code 9 = .ok (.iload_n 3, 1) := by decide +kernel
theorem d_cG_make_10 : decode prog_1_method_14_code 10 = .ok (.invokestatic 139, 3) := by decide +kernel
theorem d_cG_make_13 : decode prog_1_method_14_code 13 = .ok (.ifCond .ne 11, 3) := by decide +kernel
theorem d_cG_make_16 : decode prog_1_method_14_code 16 = .ok (.new 101, 3) := by decide +kernel
theorem d_cG_make_19 : decode prog_1_method_14_code 19 = .ok (.dup, 1) := by decide +kernel
theorem d_cG_make_20 : decode prog_1_method_14_code 20 = .ok (.invokespecial 103, 3) := by decide +kernel
theorem d_cG_make_23 : decode prog_1_method_14_code 23 = .ok (.athrow, 1) := by decide +kernel
theorem d_cG_make_24 : decode prog_1_method_14_code 24 = .ok (.aload_n 0, 1) := by decide +kernel
theorem d_cG_make_25 : decode prog_1_method_14_code 25 = .ok (.iload_n 1, 1) := by decide +kernel
theorem d_cG_make_26 : decode prog_1_method_14_code 26 = .ok (.invokevirtual 142, 3) := by decide +kernel
theorem d_cG_make_29 : decode prog_1_method_14_code 29 = .ok (.istore 4, 2) := by decide +kernel
theorem d_cG_make_31 : decode prog_1_method_14_code 31 = .ok (.aload_n 0, 1) := by decide +kernel
theorem d_cG_make_32 : decode prog_1_method_14_code 32 = .ok (.iload_n 2, 1) := by decide +kernel
theorem d_cG_make_33 : decode prog_1_method_14_code 33 = .ok (.invokevirtual 146, 3) := by decide +kernel
theorem d_cG_make_36 : decode prog_1_method_14_code 36 = .ok (.istore 5, 2) := by decide +kernel
theorem d_cG_make_38 : decode prog_1_method_14_code 38 = .ok (.aload_n 0, 1) := by decide +kernel
theorem d_cG_make_39 : decode prog_1_method_14_code 39 = .ok (.iload_n 2, 1) := by decide +kernel
theorem d_cG_make_40 : decode prog_1_method_14_code 40 = .ok (.invokevirtual 149, 3) := by decide +kernel
theorem d_cG_make_43 : decode prog_1_method_14_code 43 = .ok (.istore 6, 2) := by decide +kernel
theorem d_cG_make_45 : decode prog_1_method_14_code 45 = .ok (.aload_n 0, 1) := by decide +kernel
theorem d_cG_make_46 : decode prog_1_method_14_code 46 = .ok (.iload_n 3, 1) := by decide +kernel
theorem d_cG_make_47 : decode prog_1_method_14_code 47 = .ok (.invokevirtual 146, 3) := by decide +kernel
theorem d_cG_make_50 : decode prog_1_method_14_code 50 = .ok (.iconst (-1), 1) := by decide +kernel
theorem d_cG_make_51 : decode prog_1_method_14_code 51 = .ok (.if_icmp .ne 17, 3) := by decide +kernel
theorem d_cG_make_54 : decode prog_1_method_14_code 54 = .ok (.aload_n 0, 1) := by decide +kernel
theorem d_cG_make_55 : decode prog_1_method_14_code 55 = .ok (.iload 4, 2) := by decide +kernel
theorem d_cG_make_57 : decode prog_1_method_14_code 57 = .ok (.iload 5, 2) := by decide +kernel
theorem d_cG_make_59 : decode prog_1_method_14_code 59 = .ok (.iload 6, 2) := by decide +kernel
theorem d_cG_make_61 : decode prog_1_method_14_code 61 = .ok (.iconst 2, 1) := by decide +kernel
theorem d_cG_make_62 : decode prog_1_method_14_code 62 = .ok (.invokevirtual 156, 3) := by decide +kernel
theorem d_cG_make_65 : decode prog_1_method_14_code 65 = .ok (.ifCond .ne 11, 3) := by decide +kernel
theorem d_cG_make_68 : decode prog_1_method_14_code 68 = .ok (.new 160, 3) := by decide +kernel
theorem d_cG_make_71 : decode prog_1_method_14_code 71 = .ok (.dup, 1) := by decide +kernel
theorem d_cG_make_72 : decode prog_1_method_14_code 72 = .ok (.invokespecial 162, 3) := by decide +kernel
theorem d_cG_make_75 : decode prog_1_method_14_code 75 = .ok (.athrow, 1) := by decide +kernel
theorem d_cG_make_76 : decode prog_1_method_14_code 76 = .ok (.aload_n 0, 1) := by decide +kernel
theorem d_cG_make_77 : decode prog_1_method_14_code 77 = .ok (.getfield 23, 3) := by decide +kernel
theorem d_cG_make_80 : decode prog_1_method_14_code 80 = .ok (.iload 4, 2) := by decide +kernel
theorem d_cG_make_82 : decode prog_1_method_14_code 82 = .ok (.iload 5, 2) := by decide +kernel
theorem d_cG_make_84 : decode prog_1_method_14_code 84 = .ok (.iload 6, 2) := by decide +kernel
theorem d_cG_make_86 : decode prog_1_method_14_code 86 = .ok (.iload 5, 2) := by decide +kernel
theorem d_cG_make_88 : decode prog_1_method_14_code 88 = .ok (.invokevirtual 163, 3) := by decide +kernel
theorem d_cG_make_91 : decode prog_1_method_14_code 91 = .ok (.istore 7, 2) := by decide +kernel
theorem d_cG_make_93 : decode prog_1_method_14_code 93 = .ok (.aload_n 0, 1) := by decide +kernel
theorem d_cG_make_94 : decode prog_1_method_14_code 94 = .ok (.getfield 31, 3) := by decide +kernel
theorem d_cG_make_97 : decode prog_1_method_14_code 97 = .ok (.iload_n 3, 1) := by decide +kernel
theorem d_cG_make_98 : decode prog_1_method_14_code 98 = .ok (.aload_n 0, 1) := by decide +kernel
theorem d_cG_make_99 : decode prog_1_method_14_code 99 = .ok (.getfield 23, 3) := by decide +kernel
theorem d_cG_make_102 : decode prog_1_method_14_code 102 = .ok (.getfield 79, 3) := by decide +kernel
theorem d_cG_make_105 : decode prog_1_method_14_code 105 = .ok (.iload 7, 2) := by decide +kernel
theorem d_cG_make_107 : decode prog_1_method_14_code 107 = .ok (.invokevirtual 135, 3) := by decide +kernel
theorem d_cG_make_110 : decode prog_1_method_14_code 110 = .ok (.lastore, 1) := by decide +kernel
theorem d_cG_make_111 : decode prog_1_method_14_code 111 = .ok (.aload_n 0, 1) := by decide +kernel
theorem d_cG_make_112 : decode prog_1_method_14_code 112 = .ok (.getfield 34, 3) := by decide +kernel
theorem d_cG_make_115 : decode prog_1_method_14_code 115 = .ok (.iload_n 3, 1) := by decide +kernel
theorem d_cG_make_116 : decode prog_1_method_14_code 116 = .ok (.aload_n 0, 1) := by decide +kernel
theorem d_cG_make_117 : decode prog_1_method_14_code 117 = .ok (.getfield 23, 3) := by decide +kernel
theorem d_cG_make_120 : decode prog_1_method_14_code 120 = .ok (.getfield 88, 3) := by decide +kernel
theorem d_cG_make_123 : decode prog_1_method_14_code 123 = .ok (.iload 6, 2) := by decide +kernel
theorem d_cG_make_125 : decode prog_1_method_14_code 125 = .ok (.invokevirtual 135, 3) := by decide +kernel
theorem d_cG_make_128 : decode prog_1_method_14_code 128 = .ok (.lastore, 1) := by decide +kernel
theorem d_cG_make_129 : decode prog_1_method_14_code 129 = .ok (.iload 7, 2) := by decide +kernel
theorem d_cG_make_131 : decode prog_1_method_14_code 131 = .ok (.ireturn, 1) := by decide +kernel
def cG_make_J68 (S_68 : CS) : Option (CS × Nat × Int32) := some (S_68, 2, 0)
def cG_make_J16 (S_16 : CS) : Option (CS × Nat × Int32) := some (S_16, 1, 0)
def cG_make (x1 : Int32) (x2 : Int32) (x3 : Int32) (S : CS) : Option (CS × Nat × Int32) := ((cG_areLabelled x1 x2 S).bind fun q3 => (if q3 = true then ((cG_isObject x3).bind fun q10 => (if q10 = true then ((cG_typeOfProcess x1 S).bind fun q26 => ((cG_typeOfObject x2 S).bind fun q33 => ((cG_classOfObject x2 S).bind fun q40 => ((cG_typeOfObject x3 S).bind fun q47 => (if q47 = (-1) then ((cG_isGranted q26 q33 q40 2 S).bind fun q62 => (if q62.2 = true then (bd (gR q62.1 0 3) fun r77 => (if kd r77 = 7 then ((cPolicy_moved r77 q26 q33 q40 q33 q62.1).bind fun q88 => (bd (gR q62.1 0 3) fun r99 => (if kd r99 = 7 then ((cNames_nameOf (r99 + 1) q88 q62.1).bind fun q107 => (if inbd x3 10 = true then (bd (pL q62.1 242 (txN x3) q107) fun S110 => (bd (gR S110 0 3) fun r117 => (if kd r117 = 7 then ((cNames_nameOf (r117 + 5) q40 S110).bind fun q125 => (if inbd x3 10 = true then (bd (pL S110 243 (txN x3) q125) fun S128 => some (S128, 0, q88)) else none)) else none))) else none)) else none))) else none)) else cG_make_J68 q62.1)) else cG_make_J68 S))))) else cG_make_J16 S)) else cG_make_J16 S))
set_option maxHeartbeats 4000000 in
set_option maxRecDepth 100000 in
theorem M_cG_make {l : Launch} (hT : ∀ e, l.admits e → e.platform.stackTraces = false) {D : va_G} {cA : Nat → ClassId} {b : Nat} {ad : Nat → Nat} {x1 : Int32} {x2 : Int32} {x3 : Int32} {S : CS} {T : MS × (Nat → Int64)} {rr : (CS × Nat × Int32)}  (h : cG_make x1 x2 x3 S = some rr) : MetX l y_cG_make (Cond.code y_cG_make prog_1_method_14_code 8 (Option.some Jvm.ClassFile.FieldType.int) :: TW) { frames := 7, cells := 1, slots := 6, locals := 143 } (va_Pc [.ref (b + 0), .int x1, .int x2, .int x3] (RpY D cA b ad (S, T))) (QT D cA b ad "java/util/NoSuchElementException" (rr.1, T) rr.2.1 (some (.int rr.2.2))) 1 6 (Ab b) := by
  refine Ct_ofX (by decide) (Nat.le_of_ble_eq_true rfl) ?_
  intro p e R s m args below meth c ls Q H locs hR hQ hx hb hts hown hml hr hlk hC hY hX hS hl hex
  have hRf : R.frames = 7 := by rw [hR]
  have hRl : R.locals = 143 := by rw [hR]
  have hown : s.vm.findClass "TypeGuard" = some m.cls := hown
  have hl : lv_has ls 8 [(0, .ref (b + 0)), (1, .int x1), (2, .int x2), (3, .int x3)] := hl
  rw [cG_make] at h
  refine lv_aload_n hx hb d_cG_make_0 rfl (lv_at hl 0 rfl) ?_
  refine lv_iload_n hx hb d_cG_make_1 rfl (lv_at hl 1 rfl) ?_
  refine lv_iload_n hx hb d_cG_make_2 rfl (lv_at hl 2 rfl) ?_
  obtain ⟨q3, hc3, h⟩ := Option.bind_eq_some_iff.mp h
  refine ck_V (As := [.int x1, .int x2]) (rest := []) (st1 := [.int (bI q3)]) (M_cG_areLabelled  hc3) t_918 t_920 p_33 t_921 t_1 hx hb hts hown hC hX hS (hrc_c0 hC hX (by rfl)) hml hl.1 ⟨by rw [hRf]; decide, by rw [hRl]; decide⟩ ⟨rfl, rfl⟩ (n := 2) (by decide +kernel) rfl rfl rfl (lv_room (Nat.le_of_ble_eq_true rfl)) d_cG_make_3 (fun H locs hX hS => ?_)
  have J16 : ∀  (H : Heap) (locs : List Loc) (ls : Array Slot), hp D cA b ad (S, T) H → va_S (Ab b) s.heap H locs → lv_has ls 8 [] → cG_make_J16 S = some rr → W p l e R s m args below meth c H locs 0 0 Q (F0 m 16 ls []) := by
    intro  H locs ls  hX hS hl h
    rw [cG_make_J16] at h
    obtain rfl := Option.some.inj h
    exact th_go (k := 1) hat_1 (by decide) rfl hQ hx hb hts hown hC hY hX hS hlk hT hex hml hl.1 ⟨by rw [hRf]; decide, by rw [hRl]; decide, by rw [hR]; decide, by rw [hR]; decide⟩ (Nat.le_of_ble_eq_true rfl) d_cG_make_16 d_cG_make_19 d_cG_make_20 d_cG_make_23
  refine lz_ifeq hx hb d_cG_make_6 (tgt := 16) (by decide) (fun hc => ?_) (fun hc => ?_)
  · rw [if_neg hc] at h
    exact J16  H locs ls  hX hS (lv_sub hl [] rfl) h
  · rw [if_pos hc] at h
    refine lv_iload_n hx hb d_cG_make_9 rfl (lv_at hl 3 rfl) ?_
    obtain ⟨q10, hc10, h⟩ := Option.bind_eq_some_iff.mp h
    refine ck_S (As := [.int x3]) (rest := []) (st1 := [.int (bI q10)]) (M_cG_isObject  hc10) t_393 t_394 t_395 t_1 hx hb hts hown hC hX hS  hml hl.1 ⟨by rw [hRf]; decide, by rw [hRl]; decide⟩ ⟨rfl, rfl⟩ (n := 1) (by decide +kernel) rfl rfl rfl (lv_room (Nat.le_of_ble_eq_true rfl)) d_cG_make_10 (fun H locs hX hS => ?_)
    refine lz_ifne hx hb d_cG_make_13 (tgt := 24) (by decide) (fun hc => ?_) (fun hc => ?_)
    · rw [if_pos hc] at h
      refine lv_aload_n hx hb d_cG_make_24 rfl (lv_at hl 0 rfl) ?_
      refine lv_iload_n hx hb d_cG_make_25 rfl (lv_at hl 1 rfl) ?_
      obtain ⟨q26, hc26, h⟩ := Option.bind_eq_some_iff.mp h
      refine ck_V (As := [.int x1]) (rest := []) (st1 := [.int q26]) (M_cG_typeOfProcess  hc26) t_378 t_380 p_0 t_381 t_1 hx hb hts hown hC hX hS (hrc_c0 hC hX (by rfl)) hml hl.1 ⟨by rw [hRf]; decide, by rw [hRl]; decide⟩ ⟨rfl, rfl⟩ (n := 1) (by decide +kernel) rfl rfl rfl (lv_room (Nat.le_of_ble_eq_true rfl)) d_cG_make_26 (fun H locs hX hS => ?_)
      refine lv_istore (lv' := [(4, .int q26), (0, .ref (b + 0)), (1, .int x1), (2, .int x2), (3, .int x3)]) hx hb d_cG_make_29 hl (by decide) rfl (fun ls hl => ?_)
      refine lv_aload_n hx hb d_cG_make_31 rfl (lv_at hl 1 rfl) ?_
      refine lv_iload_n hx hb d_cG_make_32 rfl (lv_at hl 3 rfl) ?_
      obtain ⟨q33, hc33, h⟩ := Option.bind_eq_some_iff.mp h
      refine ck_V (As := [.int x2]) (rest := []) (st1 := [.int q33]) (M_cG_typeOfObject  hc33) t_389 t_391 p_1 t_392 t_1 hx hb hts hown hC hX hS (hrc_c0 hC hX (by rfl)) hml hl.1 ⟨by rw [hRf]; decide, by rw [hRl]; decide⟩ ⟨rfl, rfl⟩ (n := 1) (by decide +kernel) rfl rfl rfl (lv_room (Nat.le_of_ble_eq_true rfl)) d_cG_make_33 (fun H locs hX hS => ?_)
      refine lv_istore (lv' := [(5, .int q33), (4, .int q26), (0, .ref (b + 0)), (1, .int x1), (2, .int x2), (3, .int x3)]) hx hb d_cG_make_36 hl (by decide) rfl (fun ls hl => ?_)
      refine lv_aload_n hx hb d_cG_make_38 rfl (lv_at hl 2 rfl) ?_
      refine lv_iload_n hx hb d_cG_make_39 rfl (lv_at hl 4 rfl) ?_
      obtain ⟨q40, hc40, h⟩ := Option.bind_eq_some_iff.mp h
      refine ck_V (As := [.int x2]) (rest := []) (st1 := [.int q40]) (M_cG_classOfObject  hc40) t_396 t_398 p_2 t_399 t_1 hx hb hts hown hC hX hS (hrc_c0 hC hX (by rfl)) hml hl.1 ⟨by rw [hRf]; decide, by rw [hRl]; decide⟩ ⟨rfl, rfl⟩ (n := 1) (by decide +kernel) rfl rfl rfl (lv_room (Nat.le_of_ble_eq_true rfl)) d_cG_make_40 (fun H locs hX hS => ?_)
      refine lv_istore (lv' := [(6, .int q40), (5, .int q33), (4, .int q26), (0, .ref (b + 0)), (1, .int x1), (2, .int x2), (3, .int x3)]) hx hb d_cG_make_43 hl (by decide) rfl (fun ls hl => ?_)
      refine lv_aload_n hx hb d_cG_make_45 rfl (lv_at hl 3 rfl) ?_
      refine lv_iload_n hx hb d_cG_make_46 rfl (lv_at hl 6 rfl) ?_
      obtain ⟨q47, hc47, h⟩ := Option.bind_eq_some_iff.mp h
      refine ck_V (As := [.int x3]) (rest := []) (st1 := [.int q47]) (M_cG_typeOfObject  hc47) t_389 t_391 p_1 t_392 t_1 hx hb hts hown hC hX hS (hrc_c0 hC hX (by rfl)) hml hl.1 ⟨by rw [hRf]; decide, by rw [hRl]; decide⟩ ⟨rfl, rfl⟩ (n := 1) (by decide +kernel) rfl rfl rfl (lv_room (Nat.le_of_ble_eq_true rfl)) d_cG_make_47 (fun H locs hX hS => ?_)
      refine lv_iconst (v := (-1)) hx hb d_cG_make_50 (by decide) ?_
      have J68 : ∀ (S_68 : CS) (H : Heap) (locs : List Loc) (ls : Array Slot), hp D cA b ad (S_68, T) H → va_S (Ab b) s.heap H locs → lv_has ls 8 [] → cG_make_J68 S_68 = some rr → W p l e R s m args below meth c H locs 0 0 Q (F0 m 68 ls []) := by
        intro S_68 H locs ls  hX hS hl h
        rw [cG_make_J68] at h
        obtain rfl := Option.some.inj h
        exact th_go (k := 2) hat_2 (by decide) rfl hQ hx hb hts hown hC hY hX hS hlk hT hex hml hl.1 ⟨by rw [hRf]; decide, by rw [hRl]; decide, by rw [hR]; decide, by rw [hR]; decide⟩ (Nat.le_of_ble_eq_true rfl) d_cG_make_68 d_cG_make_71 d_cG_make_72 d_cG_make_75
      refine lv_icmp_ne hx hb d_cG_make_51 (tgt := 68) (by decide) (fun hc => ?_) (fun hc => ?_)
      · rw [if_neg hc] at h
        exact J68 S H locs ls  hX hS (lv_sub hl [] rfl) h
      · rw [if_pos hc] at h
        refine lv_aload_n hx hb d_cG_make_54 rfl (lv_at hl 3 rfl) ?_
        refine lv_iload hx hb d_cG_make_55 (lv_at hl 2 rfl) ?_
        refine lv_iload hx hb d_cG_make_57 (lv_at hl 1 rfl) ?_
        refine lv_iload hx hb d_cG_make_59 (lv_at hl 0 rfl) ?_
        refine lv_iconst (v := 2) hx hb d_cG_make_61 (by decide) ?_
        obtain ⟨q62, hc62, h⟩ := Option.bind_eq_some_iff.mp h
        refine ck_V (As := [.int q26, .int q33, .int q40, .int 2]) (rest := []) (st1 := [.int (bI q62.2)]) (M_cG_isGranted  hc62) t_922 t_924 p_34 t_925 t_1 hx hb hts hown hC hX hS (hrc_c0 hC hX (by rfl)) hml hl.1 ⟨by rw [hRf]; decide, by rw [hRl]; decide⟩ ⟨rfl, rfl⟩ (n := 4) (by decide +kernel) rfl rfl rfl (lv_room (Nat.le_of_ble_eq_true rfl)) d_cG_make_62 (fun H locs hX hS => ?_)
        refine lz_ifne hx hb d_cG_make_65 (tgt := 76) (by decide) (fun hc => ?_) (fun hc => ?_)
        · rw [if_pos hc] at h
          refine lv_aload_n hx hb d_cG_make_76 rfl (lv_at hl 3 rfl) ?_
          refine c_get_0_3 hx hb hts hown hC hX (by rfl) (hts _ t_331) d_cG_make_77 ?_
          obtain ⟨r77, e77, h⟩ := bd_some h
          refine lt_R e77 ?_
          by_cases hkr77 : kd r77 = 7
          rotate_left; · rw [if_neg hkr77] at h; cases h
          rw [if_pos hkr77] at h
          refine lv_iload hx hb d_cG_make_80 (lv_at hl 2 rfl) ?_
          refine lv_iload hx hb d_cG_make_82 (lv_at hl 1 rfl) ?_
          refine lv_iload hx hb d_cG_make_84 (lv_at hl 0 rfl) ?_
          refine lv_iload hx hb d_cG_make_86 (lv_at hl 1 rfl) ?_
          obtain ⟨q88, hc88, h⟩ := Option.bind_eq_some_iff.mp h
          refine ck_V (As := [.int q26, .int q33, .int q40, .int q33]) (rest := []) (st1 := [.int q88]) (M_cPolicy_moved hkr77 hc88) t_970 t_971 t_972 t_973 t_4 hx hb hts hown hC hX hS (hrc_c7 hC hX hkr77) hml hl.1 ⟨by rw [hRf]; decide, by rw [hRl]; decide⟩ ⟨rfl, rfl⟩ (n := 4) (by decide +kernel) rfl rfl rfl (lv_room (Nat.le_of_ble_eq_true rfl)) d_cG_make_88 (fun H locs hX hS => ?_)
          refine lv_istore (lv' := [(7, .int q88), (6, .int q40), (5, .int q33), (4, .int q26), (0, .ref (b + 0)), (1, .int x1), (2, .int x2), (3, .int x3)]) hx hb d_cG_make_91 hl (by decide) rfl (fun ls hl => ?_)
          refine lv_aload_n hx hb d_cG_make_93 rfl (lv_at hl 4 rfl) ?_
          refine c_get_0_6 hx hb hts hown hC hX (by rfl) (hts _ t_334) d_cG_make_94 ?_
          refine lv_iload_n hx hb d_cG_make_97 rfl (lv_at hl 7 rfl) ?_
          refine lv_aload_n hx hb d_cG_make_98 rfl (lv_at hl 4 rfl) ?_
          refine c_get_0_3 hx hb hts hown hC hX (by rfl) (hts _ t_331) d_cG_make_99 ?_
          obtain ⟨r99, e99, h⟩ := bd_some h
          refine lt_R e99 ?_
          by_cases hkr99 : kd r99 = 7
          rotate_left; · rw [if_neg hkr99] at h; cases h
          rw [if_pos hkr99] at h
          refine c_get_7_0N (k := r99) hx hb hts hown hC hX hkr99 (va_Nw.use rfl (hC.2.1 _ t_186)) d_cG_make_102 ?_
          refine lv_iload hx hb d_cG_make_105 (lv_at hl 0 rfl) ?_
          obtain ⟨q107, hc107, h⟩ := Option.bind_eq_some_iff.mp h
          refine ck_V (As := [.int q88]) (rest := [.int x3, .ref (b + 242)]) (st1 := [.long q107, .int x3, .ref (b + 242)]) (M_cNames_nameOf (kx_7_1 hkr99) hc107) t_899 t_900 t_901 t_902 t_5 hx hb hts hown hC hX hS (hrc_c8 hC hX (kx_7_1 hkr99)) hml hl.1 ⟨by rw [hRf]; decide, by rw [hRl]; decide⟩ ⟨rfl, rfl⟩ (n := 1) (by decide +kernel) rfl rfl rfl (lv_room (Nat.le_of_ble_eq_true rfl)) d_cG_make_107 (fun H locs hX hS => ?_)
          by_cases hg110 : inbd x3 10 = true
          rotate_left; · rw [if_neg hg110] at h; cases h
          rw [if_pos hg110] at h
          refine c_ast_18 (k := 242) (v := q107) hx hb hC hX hS (by rfl) hg110 d_cG_make_110 (fun H locs hX hS => ?_)
          obtain ⟨S110, e110, h⟩ := bd_some h
          rw [← e110] at hX
          refine lv_aload_n hx hb d_cG_make_111 rfl (lv_at hl 4 rfl) ?_
          refine c_get_0_7 hx hb hts hown hC hX (by rfl) (hts _ t_335) d_cG_make_112 ?_
          refine lv_iload_n hx hb d_cG_make_115 rfl (lv_at hl 7 rfl) ?_
          refine lv_aload_n hx hb d_cG_make_116 rfl (lv_at hl 4 rfl) ?_
          refine c_get_0_3 hx hb hts hown hC hX (by rfl) (hts _ t_331) d_cG_make_117 ?_
          obtain ⟨r117, e117, h⟩ := bd_some h
          refine lt_R e117 ?_
          by_cases hkr117 : kd r117 = 7
          rotate_left; · rw [if_neg hkr117] at h; cases h
          rw [if_pos hkr117] at h
          refine c_get_7_2N (k := r117) hx hb hts hown hC hX hkr117 (va_Nw.use rfl (hC.2.1 _ t_191)) d_cG_make_120 ?_
          refine lv_iload hx hb d_cG_make_123 (lv_at hl 1 rfl) ?_
          obtain ⟨q125, hc125, h⟩ := Option.bind_eq_some_iff.mp h
          refine ck_V (As := [.int q40]) (rest := [.int x3, .ref (b + 243)]) (st1 := [.long q125, .int x3, .ref (b + 243)]) (M_cNames_nameOf (kx_7_5 hkr117) hc125) t_899 t_900 t_901 t_902 t_5 hx hb hts hown hC hX hS (hrc_c8 hC hX (kx_7_5 hkr117)) hml hl.1 ⟨by rw [hRf]; decide, by rw [hRl]; decide⟩ ⟨rfl, rfl⟩ (n := 1) (by decide +kernel) rfl rfl rfl (lv_room (Nat.le_of_ble_eq_true rfl)) d_cG_make_125 (fun H locs hX hS => ?_)
          by_cases hg128 : inbd x3 10 = true
          rotate_left; · rw [if_neg hg128] at h; cases h
          rw [if_pos hg128] at h
          refine c_ast_19 (k := 243) (v := q125) hx hb hC hX hS (by rfl) hg128 d_cG_make_128 (fun H locs hX hS => ?_)
          obtain ⟨S128, e128, h⟩ := bd_some h
          rw [← e128] at hX
          refine lv_iload hx hb d_cG_make_129 (lv_at hl 0 rfl) ?_
          obtain rfl := Option.some.inj h
          exact rx_i hQ hx hb hr hX hS hlk d_cG_make_131
        · rw [if_neg hc] at h
          exact J68 q62.1 H locs ls  hX hS (lv_sub hl [] rfl) h
    · rw [if_neg hc] at h
      exact J16  H locs ls  hX hS (lv_sub hl [] rfl) h
