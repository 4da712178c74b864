abbrev y_icG : MethodName := ({ cls := "TypeGuard", name := "<init>", desc := "()V" } : Jvm.MethodName)
theorem d_icG_0 : decode prog_1_method_1_code 0 = .ok (.aload_n 0, 1) := by decide +kernel
theorem d_icG_1 : decode prog_1_method_1_code 1 = .ok (.invokespecial 1, 3) := by decide +kernel
theorem d_icG_4 : decode prog_1_method_1_code 4 = .ok (.aload_n 0, 1) := by decide +kernel
theorem d_icG_5 : decode prog_1_method_1_code 5 = .ok (.sipush 480, 3) := by decide +kernel
theorem d_icG_8 : decode prog_1_method_1_code 8 = .ok (.newarray .char, 2) := by decide +kernel
theorem d_icG_10 : decode prog_1_method_1_code 10 = .ok (.putfield 9, 3) := by decide +kernel
theorem d_icG_13 : decode prog_1_method_1_code 13 = .ok (.aload_n 0, 1) := by decide +kernel
theorem d_icG_14 : decode prog_1_method_1_code 14 = .ok (.new 13, 3) := by decide +kernel
theorem d_icG_17 : decode prog_1_method_1_code 17 = .ok (.dup, 1) := by decide +kernel
theorem d_icG_18 : decode prog_1_method_1_code 18 = .ok (.invokespecial 15, 3) := by decide +kernel
theorem d_icG_21 : decode prog_1_method_1_code 21 = .ok (.putfield 16, 3) := by decide +kernel
theorem d_icG_24 : decode prog_1_method_1_code 24 = .ok (.aload_n 0, 1) := by decide +kernel
theorem d_icG_25 : decode prog_1_method_1_code 25 = .ok (.new 20, 3) := by decide +kernel
theorem d_icG_28 : decode prog_1_method_1_code 28 = .ok (.dup, 1) := by decide +kernel
theorem d_icG_29 : decode prog_1_method_1_code 29 = .ok (.invokespecial 22, 3) := by decide +kernel
theorem d_icG_32 : decode prog_1_method_1_code 32 = .ok (.putfield 23, 3) := by decide +kernel
theorem d_icG_35 : decode prog_1_method_1_code 35 = .ok (.aload_n 0, 1) := by decide +kernel
theorem d_icG_36 : decode prog_1_method_1_code 36 = .ok (.bipush 6, 2) := by decide +kernel
theorem d_icG_38 : decode prog_1_method_1_code 38 = .ok (.newarray .long, 2) := by decide +kernel
theorem d_icG_40 : decode prog_1_method_1_code 40 = .ok (.putfield 27, 3) := by decide +kernel
theorem d_icG_43 : decode prog_1_method_1_code 43 = .ok (.aload_n 0, 1) := by decide +kernel
theorem d_icG_44 : decode prog_1_method_1_code 44 = .ok (.bipush 10, 2) := by decide +kernel
theorem d_icG_46 : decode prog_1_method_1_code 46 = .ok (.newarray .long, 2) := by decide +kernel
theorem d_icG_48 : decode prog_1_method_1_code 48 = .ok (.putfield 31, 3) := by decide +kernel
theorem d_icG_51 : decode prog_1_method_1_code 51 = .ok (.aload_n 0, 1) := by decide +kernel
theorem d_icG_52 : decode prog_1_method_1_code 52 = .ok (.bipush 10, 2) := by decide +kernel
theorem d_icG_54 : decode prog_1_method_1_code 54 = .ok (.newarray .long, 2) := by decide +kernel
theorem d_icG_56 : decode prog_1_method_1_code 56 = .ok (.putfield 34, 3) := by decide +kernel
theorem d_icG_59 : decode prog_1_method_1_code 59 = .ok (.aload_n 0, 1) := by decide +kernel
theorem d_icG_60 : decode prog_1_method_1_code 60 = .ok (.new 37, 3) := by decide +kernel
theorem d_icG_63 : decode prog_1_method_1_code 63 = .ok (.dup, 1) := by decide +kernel
theorem d_icG_64 : decode prog_1_method_1_code 64 = .ok (.invokespecial 39, 3) := by decide +kernel
theorem d_icG_67 : decode prog_1_method_1_code 67 = .ok (.putfield 40, 3) := by decide +kernel
theorem d_icG_70 : decode prog_1_method_1_code 70 = .ok (.aload_n 0, 1) := by decide +kernel
theorem d_icG_71 : decode prog_1_method_1_code 71 = .ok (.new 44, 3) := by decide +kernel
theorem d_icG_74 : decode prog_1_method_1_code 74 = .ok (.dup, 1) := by decide +kernel
theorem d_icG_75 : decode prog_1_method_1_code 75 = .ok (.invokespecial 46, 3) := by decide +kernel
theorem d_icG_78 : decode prog_1_method_1_code 78 = .ok (.putfield 47, 3) := by decide +kernel
theorem d_icG_81 : decode prog_1_method_1_code 81 = .ok (.return_, 1) := by decide +kernel
set_option maxHeartbeats 8000000 in
set_option maxRecDepth 100000 in
theorem M_icG {l : Launch} {D : va_G} {cA : Nat → ClassId} {b : Nat} {ad : Nat → Nat} : Met l y_icG (Cond.code y_icG prog_1_method_1_code 1 none :: TW) { frames := 5, cells := 261, slots := 3725, locals := 101 } (va_Pc [.ref (b + 0)] (Kp D cA b ad 0 (.inr (0, [.null, .int 0, .null, .null, .int 0, .null, .null, .null, .null, .null])))) (Kq D cA b ad 0 262) 261 3725 (Ab (b + 0)) := by
  refine Ct_ofK (by decide) rfl (Nat.le_of_ble_eq_true rfl) ?_
  intro p e R s m args below meth c ls Q H hR hQ hx hb hts hown hml hr hlk hnm hC hA hs0 hP hD hS hz hl
  have hRf : R.frames = 5 := by rw [hR]
  have hRl : R.locals = 101 := by rw [hR]
  have hown : s.vm.findClass "TypeGuard" = some m.cls := hown
  have hl : lv_has ls 1 [(0, .ref (b + 0))] := hl
  obtain ⟨F, hF⟩ : ∃ F, F = cS cA b ad Z0 := ⟨_, rfl⟩
  refine lv_aload_n hx hb d_icG_0 rfl (lv_at hl 0 rfl) ?_
  refine W.objInit hx hb hown (hts _ t_32) (hts _ t_33) (hts _ t_34) rfl (hl.1.trans hml.symm) rfl d_icG_1 (by rw [hRf]; decide) (by rw [hRl]; exact Nat.le_of_ble_eq_true rfl) ?_
  show W p l e R s m args below meth c H [] 0 0 Q (F0 m 4 ls [])
  refine lv_aload_n hx hb d_icG_4 rfl (lv_at hl 0 rfl) ?_
  refine lv_sipush (v := 480) hx hb d_icG_5 (by decide) ?_
  refine kr_arr (ad := ad) (atype := .char) (n := 1) (t := 2) (N := 480) hx hb hts t_63 rfl hP hD hS (by omega) hz (az_1 rfl) (hC.1.2 2 _ rfl).2 (fun _ => rfl) (by decide) (by decide) (by decide) (by rw [hR]; exact Nat.le_of_ble_eq_true rfl) (by rw [hR]; exact Nat.le_of_ble_eq_true rfl) d_icG_8 (fun H hP hD hS hz => ?_)
  have hP : va_P D kCl [(b + 0, .inr (0, [.null, .int 0, .null, .null, .int 0, .null, .null, .null, .null, .null])), (b + 1, cS cA b ad Z0 1)] H := hP
  have hD : va_D (Ab (b + 0)) [(b + 0, .inr (0, [.null, .int 0, .null, .null, .int 0, .null, .null, .null, .null, .null])), (b + 1, cS cA b ad Z0 1)] := hD
  rw [← hF] at hP hD
  refine va_putF (ci := 0) (C := rR0) (T := rT0) (N := 10) (ty := .array (.char)) hx hb hts in_c0 ry0 ft_c0 fn_c0 hown hC.1 hP hD hS 0 rfl rfl 0 (by decide) (hts _ t_328) (fun _ h9 => h9) rfl hnm rfl (by decide +kernel) rfl rfl (Nat.le_of_ble_eq_true rfl) d_icG_10 (fun H locs hP hD hS => ?_)
  have hP : va_P D kCl [(b + 0, .inr (0, [.ref (b + 1), .int 0, .null, .null, .int 0, .null, .null, .null, .null, .null])), (b + 1, F 1)] H := hP
  have hD : va_D (Ab (b + 0)) [(b + 0, .inr (0, [.ref (b + 1), .int 0, .null, .null, .int 0, .null, .null, .null, .null, .null])), (b + 1, F 1)] := hD
  refine kr_size (b := b) (n := 2) (by omega) (show b + 1 + 1 ≤ H.size from (hP 1 _ rfl).lt) (fun hz => ?_)
  refine lv_aload_n hx hb d_icG_13 rfl (lv_at hl 0 rfl) ?_
  refine kr_new (n := 2) (C := rR1) (T := rT1) (N := 6) (ci := 1) (fs := [.null, .null, .int 0, .int 0, .int 0, .int 0]) hx hb hts in_c2 ry1 ft_c2 hown t_35 t_36 t_2 hC hP hS hz rfl (by decide +kernel) (by rw [hR]; exact Nat.le_of_ble_eq_true rfl) (by rw [hR]; exact Nat.le_of_ble_eq_true rfl) d_icG_14 (fun H hP hlt hB hS hz => ?_)
  refine lv_dup hx hb d_icG_17 rfl ?_
  refine kr_call (n := 2) (va_runIN (As := []) (rest := [.ref (b + 2), .ref (b + 0)]) (n := 0) ⟨hx, hb, hml, hown, hts⟩ (M_icReader ) ⟨va_cnB 0 hts (good_TW t_39) rfl rfl rfl (hC.2.1 _ t_37) (hts _ t_2) (by decide +kernel) ⟨by rw [hRf]; decide, by rw [hRl]; decide⟩, rfl, hts _ t_38⟩ ⟨Kp_blind, Kp_pre hC hA hz hB hS⟩ rfl rfl hl.1 rfl (lv_room (Nat.le_of_ble_eq_true rfl)) d_icG_18 ⟨(by rw [hR]; exact Nat.le_of_ble_eq_true rfl), (by rw [hR]; exact Nat.le_of_ble_eq_true rfl)⟩) hP hlt hD hS hz (by omega) (fun H locs hP hD hS hz => ?_)
  have hP : va_P D kCl ([(b + 0, .inr (0, [.ref (b + 1), .int 0, .null, .null, .int 0, .null, .null, .null, .null, .null])), (b + 1, F 1)] ++ wI cA b ad (List.range' 2 122)) H := hP
  have hD : va_D (Ab (b + 0)) ([(b + 0, .inr (0, [.ref (b + 1), .int 0, .null, .null, .int 0, .null, .null, .null, .null, .null])), (b + 1, F 1)] ++ wI cA b ad (List.range' 2 122)) := hD
  refine va_putF (ci := 0) (C := rR0) (T := rT0) (N := 10) (ty := .object "TypeGuard$Reader") hx hb hts in_c0 ry0 ft_c0 fn_c0 hown hC.1 hP hD hS 0 rfl rfl 2 (by decide) (hts _ t_330) (fun _ h9 => h9) rfl hnm rfl (by decide +kernel) rfl rfl (Nat.le_of_ble_eq_true rfl) d_icG_21 (fun H locs hP hD hS => ?_)
  have hP : va_P D kCl ([(b + 0, .inr (0, [.ref (b + 1), .int 0, .ref (b + 2), .null, .int 0, .null, .null, .null, .null, .null])), (b + 1, F 1)] ++ wI cA b ad (List.range' 2 122)) H := hP
  have hD : va_D (Ab (b + 0)) ([(b + 0, .inr (0, [.ref (b + 1), .int 0, .ref (b + 2), .null, .int 0, .null, .null, .null, .null, .null])), (b + 1, F 1)] ++ wI cA b ad (List.range' 2 122)) := hD
  refine kr_size (b := b) (n := 124) (by omega) (show b + 124 ≤ H.size from P_lt (a := 2) (m := 122) (by decide) hP) (fun hz => ?_)
  refine lv_aload_n hx hb d_icG_24 rfl (lv_at hl 0 rfl) ?_
  refine kr_new (n := 124) (C := rR3) (T := rT3) (N := 9) (ci := 3) (fs := [.null, .null, .null, .null, .null, .null, .null, .null, .int 0]) hx hb hts in_c7 ry3 ft_c7 hown t_248 t_67 t_4 hC hP hS hz rfl (by decide +kernel) (by rw [hR]; exact Nat.le_of_ble_eq_true rfl) (by rw [hR]; exact Nat.le_of_ble_eq_true rfl) d_icG_25 (fun H hP hlt hB hS hz => ?_)
  refine lv_dup hx hb d_icG_28 rfl ?_
  refine kr_call (n := 124) (va_runI (As := []) (rest := [.ref (b + 124), .ref (b + 0)]) (n := 0) ⟨hx, hb, hml, hown, hts⟩ (M_icPolicy (by rfl)) ⟨callB_of 0 hts (good_TW t_70) rfl rfl rfl (hts _ t_4) (hts _ t_249) (by decide +kernel) ⟨by rw [hRf]; decide, by rw [hRl]; decide⟩, rfl, hts _ t_69⟩ ⟨Kp_blind, Kp_pre hC hA hz hB hS⟩ rfl rfl hl.1 rfl (lv_room (Nat.le_of_ble_eq_true rfl)) d_icG_29 ⟨(by rw [hR]; exact Nat.le_of_ble_eq_true rfl), (by rw [hR]; exact Nat.le_of_ble_eq_true rfl)⟩) hP hlt hD hS hz (by omega) (fun H locs hP hD hS hz => ?_)
  have hP : va_P D kCl ([(b + 0, .inr (0, [.ref (b + 1), .int 0, .ref (b + 2), .null, .int 0, .null, .null, .null, .null, .null])), (b + 1, F 1)] ++ wI cA b ad (List.range' 2 239)) H := P_cat (a := 2) (m := 122) (a' := 124) (sz := 117) hP (by omega)
  have hD : va_D (Ab (b + 0)) ([(b + 0, .inr (0, [.ref (b + 1), .int 0, .ref (b + 2), .null, .int 0, .null, .null, .null, .null, .null])), (b + 1, F 1)] ++ wI cA b ad (List.range' 2 239)) := D_cat (a := 2) (m := 122) (a' := 124) (sz := 117) hD (by omega)
  refine va_put (ci := 0) (C := rR0) (T := rT0) (N := 10) (ty := .object "TypeGuard$Policy") hx hb hts in_c0 ry0 ft_c0 fn_c0 hown hC.1 hP hD hS 0 rfl rfl 3 (by decide) (hts _ t_331) (fun _ h9 => h9) rfl (by decide +kernel) rfl rfl (Nat.le_of_ble_eq_true rfl) d_icG_32 (fun H locs hP hD hS => ?_)
  have hP : va_P D kCl ([(b + 0, .inr (0, [.ref (b + 1), .int 0, .ref (b + 2), .ref (b + 124), .int 0, .null, .null, .null, .null, .null])), (b + 1, F 1)] ++ wI cA b ad (List.range' 2 239)) H := hP
  have hD : va_D (Ab (b + 0)) ([(b + 0, .inr (0, [.ref (b + 1), .int 0, .ref (b + 2), .ref (b + 124), .int 0, .null, .null, .null, .null, .null])), (b + 1, F 1)] ++ wI cA b ad (List.range' 2 239)) := hD
  refine kr_size (b := b) (n := 241) (by omega) (show b + 241 ≤ H.size from P_lt (a := 2) (m := 239) (by decide) hP) (fun hz => ?_)
  refine lv_aload_n hx hb d_icG_35 rfl (lv_at hl 0 rfl) ?_
  refine lv_bipush (v := 6) hx hb d_icG_36 (by decide) ?_
  refine kr_arr (ad := ad) (atype := .long) (n := 241) (t := 1) (N := 6) hx hb hts t_65 rfl hP hD hS (by omega) hz (az_17 rfl) (hC.1.2 1 _ rfl).2 (fun _ => rfl) (by decide) (by decide) (by decide) (by rw [hR]; exact Nat.le_of_ble_eq_true rfl) (by rw [hR]; exact Nat.le_of_ble_eq_true rfl) d_icG_38 (fun H hP hD hS hz => ?_)
  have hP : va_P D kCl ([(b + 0, .inr (0, [.ref (b + 1), .int 0, .ref (b + 2), .ref (b + 124), .int 0, .null, .null, .null, .null, .null])), (b + 1, F 1)] ++ wI cA b ad (List.range' 2 240)) H := P_cat (a := 2) (m := 239) (a' := 241) (sz := 1) hP (by omega)
  have hD : va_D (Ab (b + 0)) ([(b + 0, .inr (0, [.ref (b + 1), .int 0, .ref (b + 2), .ref (b + 124), .int 0, .null, .null, .null, .null, .null])), (b + 1, F 1)] ++ wI cA b ad (List.range' 2 240)) := D_cat (a := 2) (m := 239) (a' := 241) (sz := 1) hD (by omega)
  refine va_putF (ci := 0) (C := rR0) (T := rT0) (N := 10) (ty := .array (.long)) hx hb hts in_c0 ry0 ft_c0 fn_c0 hown hC.1 hP hD hS 0 rfl rfl 5 (by decide) (hts _ t_333) (fun _ h9 => h9) rfl hnm rfl (by decide +kernel) rfl rfl (Nat.le_of_ble_eq_true rfl) d_icG_40 (fun H locs hP hD hS => ?_)
  have hP : va_P D kCl ([(b + 0, .inr (0, [.ref (b + 1), .int 0, .ref (b + 2), .ref (b + 124), .int 0, .ref (b + 241), .null, .null, .null, .null])), (b + 1, F 1)] ++ wI cA b ad (List.range' 2 240)) H := hP
  have hD : va_D (Ab (b + 0)) ([(b + 0, .inr (0, [.ref (b + 1), .int 0, .ref (b + 2), .ref (b + 124), .int 0, .ref (b + 241), .null, .null, .null, .null])), (b + 1, F 1)] ++ wI cA b ad (List.range' 2 240)) := hD
  refine kr_size (b := b) (n := 242) (by omega) (show b + 242 ≤ H.size from P_lt (a := 2) (m := 240) (by decide) hP) (fun hz => ?_)
  refine lv_aload_n hx hb d_icG_43 rfl (lv_at hl 0 rfl) ?_
  refine lv_bipush (v := 10) hx hb d_icG_44 (by decide) ?_
  refine kr_arr (ad := ad) (atype := .long) (n := 242) (t := 1) (N := 10) hx hb hts t_65 rfl hP hD hS (by omega) hz (az_18 rfl) (hC.1.2 1 _ rfl).2 (fun _ => rfl) (by decide) (by decide) (by decide) (by rw [hR]; exact Nat.le_of_ble_eq_true rfl) (by rw [hR]; exact Nat.le_of_ble_eq_true rfl) d_icG_46 (fun H hP hD hS hz => ?_)
  have hP : va_P D kCl ([(b + 0, .inr (0, [.ref (b + 1), .int 0, .ref (b + 2), .ref (b + 124), .int 0, .ref (b + 241), .null, .null, .null, .null])), (b + 1, F 1)] ++ wI cA b ad (List.range' 2 241)) H := P_cat (a := 2) (m := 240) (a' := 242) (sz := 1) hP (by omega)
  have hD : va_D (Ab (b + 0)) ([(b + 0, .inr (0, [.ref (b + 1), .int 0, .ref (b + 2), .ref (b + 124), .int 0, .ref (b + 241), .null, .null, .null, .null])), (b + 1, F 1)] ++ wI cA b ad (List.range' 2 241)) := D_cat (a := 2) (m := 240) (a' := 242) (sz := 1) hD (by omega)
  refine va_putF (ci := 0) (C := rR0) (T := rT0) (N := 10) (ty := .array (.long)) hx hb hts in_c0 ry0 ft_c0 fn_c0 hown hC.1 hP hD hS 0 rfl rfl 6 (by decide) (hts _ t_334) (fun _ h9 => h9) rfl hnm rfl (by decide +kernel) rfl rfl (Nat.le_of_ble_eq_true rfl) d_icG_48 (fun H locs hP hD hS => ?_)
  have hP : va_P D kCl ([(b + 0, .inr (0, [.ref (b + 1), .int 0, .ref (b + 2), .ref (b + 124), .int 0, .ref (b + 241), .ref (b + 242), .null, .null, .null])), (b + 1, F 1)] ++ wI cA b ad (List.range' 2 241)) H := hP
  have hD : va_D (Ab (b + 0)) ([(b + 0, .inr (0, [.ref (b + 1), .int 0, .ref (b + 2), .ref (b + 124), .int 0, .ref (b + 241), .ref (b + 242), .null, .null, .null])), (b + 1, F 1)] ++ wI cA b ad (List.range' 2 241)) := hD
  refine kr_size (b := b) (n := 243) (by omega) (show b + 243 ≤ H.size from P_lt (a := 2) (m := 241) (by decide) hP) (fun hz => ?_)
  refine lv_aload_n hx hb d_icG_51 rfl (lv_at hl 0 rfl) ?_
  refine lv_bipush (v := 10) hx hb d_icG_52 (by decide) ?_
  refine kr_arr (ad := ad) (atype := .long) (n := 243) (t := 1) (N := 10) hx hb hts t_65 rfl hP hD hS (by omega) hz (az_19 rfl) (hC.1.2 1 _ rfl).2 (fun _ => rfl) (by decide) (by decide) (by decide) (by rw [hR]; exact Nat.le_of_ble_eq_true rfl) (by rw [hR]; exact Nat.le_of_ble_eq_true rfl) d_icG_54 (fun H hP hD hS hz => ?_)
  have hP : va_P D kCl ([(b + 0, .inr (0, [.ref (b + 1), .int 0, .ref (b + 2), .ref (b + 124), .int 0, .ref (b + 241), .ref (b + 242), .null, .null, .null])), (b + 1, F 1)] ++ wI cA b ad (List.range' 2 242)) H := P_cat (a := 2) (m := 241) (a' := 243) (sz := 1) hP (by omega)
  have hD : va_D (Ab (b + 0)) ([(b + 0, .inr (0, [.ref (b + 1), .int 0, .ref (b + 2), .ref (b + 124), .int 0, .ref (b + 241), .ref (b + 242), .null, .null, .null])), (b + 1, F 1)] ++ wI cA b ad (List.range' 2 242)) := D_cat (a := 2) (m := 241) (a' := 243) (sz := 1) hD (by omega)
  refine va_putF (ci := 0) (C := rR0) (T := rT0) (N := 10) (ty := .array (.long)) hx hb hts in_c0 ry0 ft_c0 fn_c0 hown hC.1 hP hD hS 0 rfl rfl 7 (by decide) (hts _ t_335) (fun _ h9 => h9) rfl hnm rfl (by decide +kernel) rfl rfl (Nat.le_of_ble_eq_true rfl) d_icG_56 (fun H locs hP hD hS => ?_)
  have hP : va_P D kCl ([(b + 0, .inr (0, [.ref (b + 1), .int 0, .ref (b + 2), .ref (b + 124), .int 0, .ref (b + 241), .ref (b + 242), .ref (b + 243), .null, .null])), (b + 1, F 1)] ++ wI cA b ad (List.range' 2 242)) H := hP
  have hD : va_D (Ab (b + 0)) ([(b + 0, .inr (0, [.ref (b + 1), .int 0, .ref (b + 2), .ref (b + 124), .int 0, .ref (b + 241), .ref (b + 242), .ref (b + 243), .null, .null])), (b + 1, F 1)] ++ wI cA b ad (List.range' 2 242)) := hD
  refine kr_size (b := b) (n := 244) (by omega) (show b + 244 ≤ H.size from P_lt (a := 2) (m := 242) (by decide) hP) (fun hz => ?_)
  refine lv_aload_n hx hb d_icG_59 rfl (lv_at hl 0 rfl) ?_
  refine kr_new (n := 244) (C := rR8) (T := rT8) (N := 5) (ci := 8) (fs := [.null, .int 0, .int 0, .int 0, .int 0]) hx hb hts in_c20 ry8 ft_c20 hown t_250 t_251 t_10 hC hP hS hz rfl (by decide +kernel) (by rw [hR]; exact Nat.le_of_ble_eq_true rfl) (by rw [hR]; exact Nat.le_of_ble_eq_true rfl) d_icG_60 (fun H hP hlt hB hS hz => ?_)
  refine lv_dup hx hb d_icG_63 rfl ?_
  refine kr_call (n := 244) (va_runI (As := []) (rest := [.ref (b + 244), .ref (b + 0)]) (n := 0) ⟨hx, hb, hml, hown, hts⟩ (M_icVectorCache ) ⟨callB_of 0 hts (good_TW t_254) rfl rfl rfl (hts _ t_10) (hts _ t_252) (by decide +kernel) ⟨by rw [hRf]; decide, by rw [hRl]; decide⟩, rfl, hts _ t_253⟩ ⟨Kp_blind, Kp_pre hC hA hz hB hS⟩ rfl rfl hl.1 rfl (lv_room (Nat.le_of_ble_eq_true rfl)) d_icG_64 ⟨(by rw [hR]; exact Nat.le_of_ble_eq_true rfl), (by rw [hR]; exact Nat.le_of_ble_eq_true rfl)⟩) hP hlt hD hS hz (by omega) (fun H locs hP hD hS hz => ?_)
  have hP : va_P D kCl ([(b + 0, .inr (0, [.ref (b + 1), .int 0, .ref (b + 2), .ref (b + 124), .int 0, .ref (b + 241), .ref (b + 242), .ref (b + 243), .null, .null])), (b + 1, F 1)] ++ wI cA b ad (List.range' 2 250)) H := P_cat (a := 2) (m := 242) (a' := 244) (sz := 8) hP (by omega)
  have hD : va_D (Ab (b + 0)) ([(b + 0, .inr (0, [.ref (b + 1), .int 0, .ref (b + 2), .ref (b + 124), .int 0, .ref (b + 241), .ref (b + 242), .ref (b + 243), .null, .null])), (b + 1, F 1)] ++ wI cA b ad (List.range' 2 250)) := D_cat (a := 2) (m := 242) (a' := 244) (sz := 8) hD (by omega)
  refine va_putF (ci := 0) (C := rR0) (T := rT0) (N := 10) (ty := .object "TypeGuard$VectorCache") hx hb hts in_c0 ry0 ft_c0 fn_c0 hown hC.1 hP hD hS 0 rfl rfl 8 (by decide) (hts _ t_336) (fun _ h9 => h9) rfl hnm rfl (by decide +kernel) rfl rfl (Nat.le_of_ble_eq_true rfl) d_icG_67 (fun H locs hP hD hS => ?_)
  have hP : va_P D kCl ([(b + 0, .inr (0, [.ref (b + 1), .int 0, .ref (b + 2), .ref (b + 124), .int 0, .ref (b + 241), .ref (b + 242), .ref (b + 243), .ref (b + 244), .null])), (b + 1, F 1)] ++ wI cA b ad (List.range' 2 250)) H := hP
  have hD : va_D (Ab (b + 0)) ([(b + 0, .inr (0, [.ref (b + 1), .int 0, .ref (b + 2), .ref (b + 124), .int 0, .ref (b + 241), .ref (b + 242), .ref (b + 243), .ref (b + 244), .null])), (b + 1, F 1)] ++ wI cA b ad (List.range' 2 250)) := hD
  refine kr_size (b := b) (n := 252) (by omega) (show b + 252 ≤ H.size from P_lt (a := 2) (m := 250) (by decide) hP) (fun hz => ?_)
  refine lv_aload_n hx hb d_icG_70 rfl (lv_at hl 0 rfl) ?_
  refine kr_new (n := 252) (C := rR9) (T := rT9) (N := 2) (ci := 9) (fs := [.null, .int 0]) hx hb hts in_c23 ry9 ft_c23 hown t_312 t_313 t_12 hC hP hS hz rfl (by decide +kernel) (by rw [hR]; exact Nat.le_of_ble_eq_true rfl) (by rw [hR]; exact Nat.le_of_ble_eq_true rfl) d_icG_71 (fun H hP hlt hB hS hz => ?_)
  refine lv_dup hx hb d_icG_74 rfl ?_
  refine kr_call (n := 252) (va_runIN (As := []) (rest := [.ref (b + 252), .ref (b + 0)]) (n := 0) ⟨hx, hb, hml, hown, hts⟩ (M_icNoteLog ) ⟨va_cnB 0 hts (good_TW t_316) rfl rfl rfl (hC.2.1 _ t_314) (hts _ t_12) (by decide +kernel) ⟨by rw [hRf]; decide, by rw [hRl]; decide⟩, rfl, hts _ t_315⟩ ⟨Kp_blind, Kp_pre hC hA hz hB hS⟩ rfl rfl hl.1 rfl (lv_room (Nat.le_of_ble_eq_true rfl)) d_icG_75 ⟨(by rw [hR]; exact Nat.le_of_ble_eq_true rfl), (by rw [hR]; exact Nat.le_of_ble_eq_true rfl)⟩) hP hlt hD hS hz (by omega) (fun H locs hP hD hS hz => ?_)
  have hP : va_P D kCl ([(b + 0, .inr (0, [.ref (b + 1), .int 0, .ref (b + 2), .ref (b + 124), .int 0, .ref (b + 241), .ref (b + 242), .ref (b + 243), .ref (b + 244), .null])), (b + 1, F 1)] ++ wI cA b ad (List.range' 2 260)) H := P_cat (a := 2) (m := 250) (a' := 252) (sz := 10) hP (by omega)
  have hD : va_D (Ab (b + 0)) ([(b + 0, .inr (0, [.ref (b + 1), .int 0, .ref (b + 2), .ref (b + 124), .int 0, .ref (b + 241), .ref (b + 242), .ref (b + 243), .ref (b + 244), .null])), (b + 1, F 1)] ++ wI cA b ad (List.range' 2 260)) := D_cat (a := 2) (m := 250) (a' := 252) (sz := 10) hD (by omega)
  refine va_putF (ci := 0) (C := rR0) (T := rT0) (N := 10) (ty := .object "TypeGuard$NoteLog") hx hb hts in_c0 ry0 ft_c0 fn_c0 hown hC.1 hP hD hS 0 rfl rfl 9 (by decide) (hts _ t_337) (fun _ h9 => h9) rfl hnm rfl (by decide +kernel) rfl rfl (Nat.le_of_ble_eq_true rfl) d_icG_78 (fun H locs hP hD hS => ?_)
  have hP : va_P D kCl ([(b + 0, .inr (0, [.ref (b + 1), .int 0, .ref (b + 2), .ref (b + 124), .int 0, .ref (b + 241), .ref (b + 242), .ref (b + 243), .ref (b + 244), .ref (b + 252)])), (b + 1, F 1)] ++ wI cA b ad (List.range' 2 260)) H := hP
  have hD : va_D (Ab (b + 0)) ([(b + 0, .inr (0, [.ref (b + 1), .int 0, .ref (b + 2), .ref (b + 124), .int 0, .ref (b + 241), .ref (b + 242), .ref (b + 243), .ref (b + 244), .ref (b + 252)])), (b + 1, F 1)] ++ wI cA b ad (List.range' 2 260)) := hD
  refine kr_size (b := b) (n := 262) (by omega) (show b + 262 ≤ H.size from P_lt (a := 2) (m := 260) (by decide) hP) (fun hz => ?_)
  rw [hF] at hP
  have e0 : (b + 0, cS cA b ad Z0 0) = (b + 0, .inr (0, [.ref (b + 1), .int 0, .ref (b + 2), .ref (b + 124), .int 0, .ref (b + 241), .ref (b + 242), .ref (b + 243), .ref (b + 244), .ref (b + 252)])) := congrArg (Prod.mk (b + 0)) (rfl)
  rw [← e0] at hP
  have hP : va_P D kCl (wI cA b ad (List.range' 0 2) ++ wI cA b ad (List.range' 2 260)) H := hP
  have hP : va_P D kCl (wI cA b ad (List.range' 0 262)) H := P_all hP (by omega)
  exact kr_ret hQ hx hb hr hP hS (by omega) (by decide) (by decide) hlk d_icG_81
