abbrev y_icReader : MethodName := ({ cls := "TypeGuard$Reader", name := "<init>", desc := "()V" } : Jvm.MethodName)
theorem d_icReader_0 : decode prog_7_method_1_code 0 = .ok (.aload_n 0, 1) := by decide +kernel
theorem d_icReader_1 : decode prog_7_method_1_code 1 = .ok (.invokespecial 3, 3) := by decide +kernel
theorem d_icReader_4 : decode prog_7_method_1_code 4 = .ok (.aload_n 0, 1) := by decide +kernel
theorem d_icReader_5 : decode prog_7_method_1_code 5 = .ok (.new 9, 3) := by decide +kernel
theorem d_icReader_8 : decode prog_7_method_1_code 8 = .ok (.dup, 1) := by decide +kernel
theorem d_icReader_9 : decode prog_7_method_1_code 9 = .ok (.invokespecial 11, 3) := by decide +kernel
theorem d_icReader_12 : decode prog_7_method_1_code 12 = .ok (.putfield 12, 3) := by decide +kernel
theorem d_icReader_15 : decode prog_7_method_1_code 15 = .ok (.aload_n 0, 1) := by decide +kernel
theorem d_icReader_16 : decode prog_7_method_1_code 16 = .ok (.new 18, 3) := by decide +kernel
theorem d_icReader_19 : decode prog_7_method_1_code 19 = .ok (.dup, 1) := by decide +kernel
theorem d_icReader_20 : decode prog_7_method_1_code 20 = .ok (.invokespecial 20, 3) := by decide +kernel
theorem d_icReader_23 : decode prog_7_method_1_code 23 = .ok (.putfield 21, 3) := by decide +kernel
theorem d_icReader_26 : decode prog_7_method_1_code 26 = .ok (.aload_n 0, 1) := by decide +kernel
theorem d_icReader_27 : decode prog_7_method_1_code 27 = .ok (.iconst 0, 1) := by decide +kernel
theorem d_icReader_28 : decode prog_7_method_1_code 28 = .ok (.putfield 25, 3) := by decide +kernel
theorem d_icReader_31 : decode prog_7_method_1_code 31 = .ok (.aload_n 0, 1) := by decide +kernel
theorem d_icReader_32 : decode prog_7_method_1_code 32 = .ok (.iconst (-1), 1) := by decide +kernel
theorem d_icReader_33 : decode prog_7_method_1_code 33 = .ok (.putfield 29, 3) := by decide +kernel
theorem d_icReader_36 : decode prog_7_method_1_code 36 = .ok (.aload_n 0, 1) := by decide +kernel
theorem d_icReader_37 : decode prog_7_method_1_code 37 = .ok (.iconst (-1), 1) := by decide +kernel
theorem d_icReader_38 : decode prog_7_method_1_code 38 = .ok (.putfield 32, 3) := by decide +kernel
theorem d_icReader_41 : decode prog_7_method_1_code 41 = .ok (.return_, 1) := by decide +kernel
set_option maxHeartbeats 8000000 in
set_option maxRecDepth 100000 in
theorem M_icReader {l : Launch} {D : va_G} {cA : Nat → ClassId} {b : Nat} {ad : Nat → Nat} : Met l y_icReader (Cond.code y_icReader prog_7_method_1_code 1 none :: TW) { frames := 4, cells := 121, slots := 2276, locals := 81 } (va_Pc [.ref (b + 2)] (Kp D cA b ad 2 (.inr (1, [.null, .null, .int 0, .int 0, .int 0, .int 0])))) (Kq D cA b ad 2 122) 121 2276 (Ab (b + 2)) := by
  refine Ct_ofK (by decide) rfl (Nat.le_of_ble_eq_true rfl) ?_
  intro p e R s m args below meth c ls Q H hR hQ hx hb hts hown hml hr hlk hnm hC hA hs0 hP hD hS hz hl
  have hRf : R.frames = 4 := by rw [hR]
  have hRl : R.locals = 81 := by rw [hR]
  have hown : s.vm.findClass "TypeGuard$Reader" = some m.cls := hown
  have hl : lv_has ls 1 [(0, .ref (b + 2))] := hl
  obtain ⟨F, hF⟩ : ∃ F, F = cS cA b ad Z0 := ⟨_, rfl⟩
  refine lv_aload_n hx hb d_icReader_0 rfl (lv_at hl 0 rfl) ?_
  refine W.objInit hx hb hown (hts _ t_40) (hts _ t_33) (hts _ t_34) rfl (hl.1.trans hml.symm) rfl d_icReader_1 (by rw [hRf]; decide) (by rw [hRl]; exact Nat.le_of_ble_eq_true rfl) ?_
  show W p l e R s m args below meth c H [] 0 0 Q (F0 m 4 ls [])
  refine lv_aload_n hx hb d_icReader_4 rfl (lv_at hl 0 rfl) ?_
  refine kr_new (n := 3) (C := rR2) (T := rT2) (N := 5) (ci := 2) (fs := [.null, .null, .null, .int 0, .int 0]) hx hb hts in_c3 ry2 ft_c3 hown t_41 t_42 t_3 hC hP hS hz rfl (by decide +kernel) (by rw [hR]; exact Nat.le_of_ble_eq_true rfl) (by rw [hR]; exact Nat.le_of_ble_eq_true rfl) d_icReader_5 (fun H hP hlt hB hS hz => ?_)
  refine lv_dup hx hb d_icReader_8 rfl ?_
  refine kr_call (n := 3) (va_runIN (As := []) (rest := [.ref (b + 3), .ref (b + 2)]) (n := 0) ⟨hx, hb, hml, hown, hts⟩ (M_icTokens ) ⟨va_cnB 0 hts (good_TW t_45) rfl rfl rfl (hC.2.1 _ t_43) (hts _ t_3) (by decide +kernel) ⟨by rw [hRf]; decide, by rw [hRl]; decide⟩, rfl, hts _ t_44⟩ ⟨Kp_blind, Kp_pre hC hA hz hB hS⟩ rfl rfl hl.1 rfl (lv_room (Nat.le_of_ble_eq_true rfl)) d_icReader_9 ⟨(by rw [hR]; exact Nat.le_of_ble_eq_true rfl), (by rw [hR]; exact Nat.le_of_ble_eq_true rfl)⟩) hP hlt hD hS hz (by omega) (fun H locs hP hD hS hz => ?_)
  have hP : va_P D kCl [(b + 2, .inr (1, [.null, .null, .int 0, .int 0, .int 0, .int 0])), (b + 3, cS cA b ad Z0 3), (b + 4, cS cA b ad Z0 4), (b + 5, cS cA b ad Z0 5), (b + 6, cS cA b ad Z0 6)] H := hP
  have hD : va_D (Ab (b + 2)) [(b + 2, .inr (1, [.null, .null, .int 0, .int 0, .int 0, .int 0])), (b + 3, cS cA b ad Z0 3), (b + 4, cS cA b ad Z0 4), (b + 5, cS cA b ad Z0 5), (b + 6, cS cA b ad Z0 6)] := hD
  rw [← hF] at hP hD
  refine va_putF (ci := 1) (C := rR1) (T := rT1) (N := 6) (ty := .object "TypeGuard$Tokens") hx hb hts in_c2 ry1 ft_c2 fn_c2 hown hC.1 hP hD hS 0 rfl rfl 0 (by decide) (hts _ t_227) (fun _ h9 => h9) rfl hnm rfl (by decide +kernel) rfl rfl (Nat.le_of_ble_eq_true rfl) d_icReader_12 (fun H locs hP hD hS => ?_)
  have hP : va_P D kCl [(b + 2, .inr (1, [.ref (b + 3), .null, .int 0, .int 0, .int 0, .int 0])), (b + 3, F 3), (b + 4, F 4), (b + 5, F 5), (b + 6, F 6)] H := hP
  have hD : va_D (Ab (b + 2)) [(b + 2, .inr (1, [.ref (b + 3), .null, .int 0, .int 0, .int 0, .int 0])), (b + 3, F 3), (b + 4, F 4), (b + 5, F 5), (b + 6, F 6)] := hD
  refine kr_size (b := b) (n := 7) (by omega) (show b + 6 + 1 ≤ H.size from (hP 4 _ rfl).lt) (fun hz => ?_)
  refine lv_aload_n hx hb d_icReader_15 rfl (lv_at hl 0 rfl) ?_
  refine kr_new (n := 7) (C := rR3) (T := rT3) (N := 9) (ci := 3) (fs := [.null, .null, .null, .null, .null, .null, .null, .null, .int 0]) hx hb hts in_c7 ry3 ft_c7 hown t_66 t_67 t_4 hC hP hS hz rfl (by decide +kernel) (by rw [hR]; exact Nat.le_of_ble_eq_true rfl) (by rw [hR]; exact Nat.le_of_ble_eq_true rfl) d_icReader_16 (fun H hP hlt hB hS hz => ?_)
  refine lv_dup hx hb d_icReader_19 rfl ?_
  refine kr_call (n := 7) (va_runI (As := []) (rest := [.ref (b + 7), .ref (b + 2)]) (n := 0) ⟨hx, hb, hml, hown, hts⟩ (M_icPolicy (by rfl)) ⟨callB_of 0 hts (good_TW t_70) rfl rfl rfl (hts _ t_4) (hts _ t_68) (by decide +kernel) ⟨by rw [hRf]; decide, by rw [hRl]; decide⟩, rfl, hts _ t_69⟩ ⟨Kp_blind, Kp_pre hC hA hz hB hS⟩ rfl rfl hl.1 rfl (lv_room (Nat.le_of_ble_eq_true rfl)) d_icReader_20 ⟨(by rw [hR]; exact Nat.le_of_ble_eq_true rfl), (by rw [hR]; exact Nat.le_of_ble_eq_true rfl)⟩) hP hlt hD hS hz (by omega) (fun H locs hP hD hS hz => ?_)
  have hP : va_P D kCl ([(b + 2, .inr (1, [.ref (b + 3), .null, .int 0, .int 0, .int 0, .int 0])), (b + 3, F 3), (b + 4, F 4), (b + 5, F 5), (b + 6, F 6)] ++ wI cA b ad (List.range' 7 117)) H := hP
  have hD : va_D (Ab (b + 2)) ([(b + 2, .inr (1, [.ref (b + 3), .null, .int 0, .int 0, .int 0, .int 0])), (b + 3, F 3), (b + 4, F 4), (b + 5, F 5), (b + 6, F 6)] ++ wI cA b ad (List.range' 7 117)) := hD
  refine va_put (ci := 1) (C := rR1) (T := rT1) (N := 6) (ty := .object "TypeGuard$Policy") hx hb hts in_c2 ry1 ft_c2 fn_c2 hown hC.1 hP hD hS 0 rfl rfl 1 (by decide) (hts _ t_228) (fun _ h9 => h9) rfl (by decide +kernel) rfl rfl (Nat.le_of_ble_eq_true rfl) d_icReader_23 (fun H locs hP hD hS => ?_)
  have hP : va_P D kCl ([(b + 2, .inr (1, [.ref (b + 3), .ref (b + 7), .int 0, .int 0, .int 0, .int 0])), (b + 3, F 3), (b + 4, F 4), (b + 5, F 5), (b + 6, F 6)] ++ wI cA b ad (List.range' 7 117)) H := hP
  have hD : va_D (Ab (b + 2)) ([(b + 2, .inr (1, [.ref (b + 3), .ref (b + 7), .int 0, .int 0, .int 0, .int 0])), (b + 3, F 3), (b + 4, F 4), (b + 5, F 5), (b + 6, F 6)] ++ wI cA b ad (List.range' 7 117)) := hD
  refine kr_size (b := b) (n := 124) (by omega) (show b + 124 ≤ H.size from P_lt (a := 7) (m := 117) (by decide) hP) (fun hz => ?_)
  refine lv_aload_n hx hb d_icReader_26 rfl (lv_at hl 0 rfl) ?_
  refine lv_iconst (v := 0) hx hb d_icReader_27 (by decide) ?_
  refine va_put (ci := 1) (C := rR1) (T := rT1) (N := 6) (ty := .int) hx hb hts in_c2 ry1 ft_c2 fn_c2 hown hC.1 hP hD hS 0 rfl rfl 2 (by decide) (hts _ t_229) (fun _ h9 => h9) rfl (by decide +kernel) rfl rfl (Nat.le_of_ble_eq_true rfl) d_icReader_28 (fun H locs hP hD hS => ?_)
  have hP : va_P D kCl ([(b + 2, .inr (1, [.ref (b + 3), .ref (b + 7), .int 0, .int 0, .int 0, .int 0])), (b + 3, F 3), (b + 4, F 4), (b + 5, F 5), (b + 6, F 6)] ++ wI cA b ad (List.range' 7 117)) H := hP
  have hD : va_D (Ab (b + 2)) ([(b + 2, .inr (1, [.ref (b + 3), .ref (b + 7), .int 0, .int 0, .int 0, .int 0])), (b + 3, F 3), (b + 4, F 4), (b + 5, F 5), (b + 6, F 6)] ++ wI cA b ad (List.range' 7 117)) := hD
  refine kr_size (b := b) (n := 124) (by omega) (show b + 124 ≤ H.size from P_lt (a := 7) (m := 117) (by decide) hP) (fun hz => ?_)
  refine lv_aload_n hx hb d_icReader_31 rfl (lv_at hl 0 rfl) ?_
  refine lv_iconst (v := (-1)) hx hb d_icReader_32 (by decide) ?_
  refine va_put (ci := 1) (C := rR1) (T := rT1) (N := 6) (ty := .int) hx hb hts in_c2 ry1 ft_c2 fn_c2 hown hC.1 hP hD hS 0 rfl rfl 3 (by decide) (hts _ t_231) (fun _ h9 => h9) rfl (by decide +kernel) rfl rfl (Nat.le_of_ble_eq_true rfl) d_icReader_33 (fun H locs hP hD hS => ?_)
  have hP : va_P D kCl ([(b + 2, .inr (1, [.ref (b + 3), .ref (b + 7), .int 0, .int (-1), .int 0, .int 0])), (b + 3, F 3), (b + 4, F 4), (b + 5, F 5), (b + 6, F 6)] ++ wI cA b ad (List.range' 7 117)) H := hP
  have hD : va_D (Ab (b + 2)) ([(b + 2, .inr (1, [.ref (b + 3), .ref (b + 7), .int 0, .int (-1), .int 0, .int 0])), (b + 3, F 3), (b + 4, F 4), (b + 5, F 5), (b + 6, F 6)] ++ wI cA b ad (List.range' 7 117)) := hD
  refine kr_size (b := b) (n := 124) (by omega) (show b + 124 ≤ H.size from P_lt (a := 7) (m := 117) (by decide) hP) (fun hz => ?_)
  refine lv_aload_n hx hb d_icReader_36 rfl (lv_at hl 0 rfl) ?_
  refine lv_iconst (v := (-1)) hx hb d_icReader_37 (by decide) ?_
  refine va_put (ci := 1) (C := rR1) (T := rT1) (N := 6) (ty := .int) hx hb hts in_c2 ry1 ft_c2 fn_c2 hown hC.1 hP hD hS 0 rfl rfl 4 (by decide) (hts _ t_233) (fun _ h9 => h9) rfl (by decide +kernel) rfl rfl (Nat.le_of_ble_eq_true rfl) d_icReader_38 (fun H locs hP hD hS => ?_)
  have hP : va_P D kCl ([(b + 2, .inr (1, [.ref (b + 3), .ref (b + 7), .int 0, .int (-1), .int (-1), .int 0])), (b + 3, F 3), (b + 4, F 4), (b + 5, F 5), (b + 6, F 6)] ++ wI cA b ad (List.range' 7 117)) H := hP
  have hD : va_D (Ab (b + 2)) ([(b + 2, .inr (1, [.ref (b + 3), .ref (b + 7), .int 0, .int (-1), .int (-1), .int 0])), (b + 3, F 3), (b + 4, F 4), (b + 5, F 5), (b + 6, F 6)] ++ wI cA b ad (List.range' 7 117)) := hD
  refine kr_size (b := b) (n := 124) (by omega) (show b + 124 ≤ H.size from P_lt (a := 7) (m := 117) (by decide) hP) (fun hz => ?_)
  rw [hF] at hP
  have e0 : (b + 2, cS cA b ad Z0 2) = (b + 2, .inr (1, [.ref (b + 3), .ref (b + 7), .int 0, .int (-1), .int (-1), .int 0])) := congrArg (Prod.mk (b + 2)) (rfl)
  rw [← e0] at hP
  have hP : va_P D kCl (wI cA b ad (List.range' 2 5) ++ wI cA b ad (List.range' 7 117)) H := hP
  have hP : va_P D kCl (wI cA b ad (List.range' 2 122)) H := P_all hP (by omega)
  exact kr_ret hQ hx hb hr hP hS (by omega) (by decide) (by decide) hlk d_icReader_41
