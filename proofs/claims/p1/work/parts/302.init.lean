abbrev y_icTokens : MethodName := ({ cls := "TypeGuard$Tokens", name := "<init>", desc := "()V" } : Jvm.MethodName)
theorem d_icTokens_0 : decode prog_9_method_1_code 0 = .ok (.aload_n 0, 1) := by decide +kernel
theorem d_icTokens_1 : decode prog_9_method_1_code 1 = .ok (.invokespecial 3, 3) := by decide +kernel
theorem d_icTokens_4 : decode prog_9_method_1_code 4 = .ok (.aload_n 0, 1) := by decide +kernel
theorem d_icTokens_5 : decode prog_9_method_1_code 5 = .ok (.sipush 481, 3) := by decide +kernel
theorem d_icTokens_8 : decode prog_9_method_1_code 8 = .ok (.newarray .char, 2) := by decide +kernel
theorem d_icTokens_10 : decode prog_9_method_1_code 10 = .ok (.putfield 9, 3) := by decide +kernel
theorem d_icTokens_13 : decode prog_9_method_1_code 13 = .ok (.aload_n 0, 1) := by decide +kernel
theorem d_icTokens_14 : decode prog_9_method_1_code 14 = .ok (.sipush 481, 3) := by decide +kernel
theorem d_icTokens_17 : decode prog_9_method_1_code 17 = .ok (.newarray .int, 2) := by decide +kernel
theorem d_icTokens_19 : decode prog_9_method_1_code 19 = .ok (.putfield 15, 3) := by decide +kernel
theorem d_icTokens_22 : decode prog_9_method_1_code 22 = .ok (.aload_n 0, 1) := by decide +kernel
theorem d_icTokens_23 : decode prog_9_method_1_code 23 = .ok (.sipush 481, 3) := by decide +kernel
theorem d_icTokens_26 : decode prog_9_method_1_code 26 = .ok (.newarray .long, 2) := by decide +kernel
theorem d_icTokens_28 : decode prog_9_method_1_code 28 = .ok (.putfield 19, 3) := by decide +kernel
theorem d_icTokens_31 : decode prog_9_method_1_code 31 = .ok (.return_, 1) := by decide +kernel
set_option maxHeartbeats 8000000 in
set_option maxRecDepth 100000 in
theorem M_icTokens {l : Launch} {D : va_G} {cA : Nat → ClassId} {b : Nat} {ad : Nat → Nat} : Met l y_icTokens (Cond.code y_icTokens prog_9_method_1_code 1 none :: TW) { frames := 1, cells := 3, slots := 1443, locals := 20 } (va_Pc [.ref (b + 3)] (Kp D cA b ad 3 (.inr (2, [.null, .null, .null, .int 0, .int 0])))) (Kq D cA b ad 3 4) 3 1443 (Ab (b + 3)) := by
  refine Ct_ofK (by decide) rfl (Nat.le_of_ble_eq_true rfl) ?_
  intro p e R s m args below meth c ls Q H hR hQ hx hb hts hown hml hr hlk hnm hC hA hs0 hP hD hS hz hl
  have hRf : R.frames = 1 := by rw [hR]
  have hRl : R.locals = 20 := by rw [hR]
  have hown : s.vm.findClass "TypeGuard$Tokens" = some m.cls := hown
  have hl : lv_has ls 1 [(0, .ref (b + 3))] := hl
  refine lv_aload_n hx hb d_icTokens_0 rfl (lv_at hl 0 rfl) ?_
  refine W.objInit hx hb hown (hts _ t_46) (hts _ t_33) (hts _ t_34) rfl (hl.1.trans hml.symm) rfl d_icTokens_1 (by rw [hRf]; decide) (by rw [hRl]; exact Nat.le_of_ble_eq_true rfl) ?_
  show W p l e R s m args below meth c H [] 0 0 Q (F0 m 4 ls [])
  refine lv_aload_n hx hb d_icTokens_4 rfl (lv_at hl 0 rfl) ?_
  refine lv_sipush (v := 481) hx hb d_icTokens_5 (by decide) ?_
  refine kr_arr (ad := ad) (atype := .char) (n := 4) (t := 2) (N := 481) hx hb hts t_63 rfl hP hD hS (by omega) hz (az_4 rfl) (hC.1.2 2 _ rfl).2 (fun _ => rfl) (by decide) (by decide) (by decide) (by rw [hR]; exact Nat.le_of_ble_eq_true rfl) (by rw [hR]; exact Nat.le_of_ble_eq_true rfl) d_icTokens_8 (fun H hP hD hS hz => ?_)
  have hP : va_P D kCl [(b + 3, .inr (2, [.null, .null, .null, .int 0, .int 0])), (b + 4, cS cA b ad Z0 4)] H := hP
  have hD : va_D (Ab (b + 3)) [(b + 3, .inr (2, [.null, .null, .null, .int 0, .int 0])), (b + 4, cS cA b ad Z0 4)] := hD
  refine va_putF (ci := 2) (C := rR2) (T := rT2) (N := 5) (ty := .array (.char)) hx hb hts in_c3 ry2 ft_c3 fn_c3 hown hC.1 hP hD hS 0 rfl rfl 0 (by decide) (hts _ t_47) (fun _ h9 => h9) rfl hnm rfl (by decide +kernel) rfl rfl (Nat.le_of_ble_eq_true rfl) d_icTokens_10 (fun H locs hP hD hS => ?_)
  have hP : va_P D kCl [(b + 3, .inr (2, [.ref (b + 4), .null, .null, .int 0, .int 0])), (b + 4, cS cA b ad Z0 4)] H := hP
  have hD : va_D (Ab (b + 3)) [(b + 3, .inr (2, [.ref (b + 4), .null, .null, .int 0, .int 0])), (b + 4, cS cA b ad Z0 4)] := hD
  refine kr_size (b := b) (n := 5) (by omega) (show b + 4 + 1 ≤ H.size from (hP 1 _ rfl).lt) (fun hz => ?_)
  refine lv_aload_n hx hb d_icTokens_13 rfl (lv_at hl 0 rfl) ?_
  refine lv_sipush (v := 481) hx hb d_icTokens_14 (by decide) ?_
  refine kr_arr (ad := ad) (atype := .int) (n := 5) (t := 0) (N := 481) hx hb hts t_64 rfl hP hD hS (by omega) hz (az_5 rfl) (hC.1.2 0 _ rfl).2 (fun _ => rfl) (by decide) (by decide) (by decide) (by rw [hR]; exact Nat.le_of_ble_eq_true rfl) (by rw [hR]; exact Nat.le_of_ble_eq_true rfl) d_icTokens_17 (fun H hP hD hS hz => ?_)
  have hP : va_P D kCl [(b + 3, .inr (2, [.ref (b + 4), .null, .null, .int 0, .int 0])), (b + 4, cS cA b ad Z0 4), (b + 5, cS cA b ad Z0 5)] H := hP
  have hD : va_D (Ab (b + 3)) [(b + 3, .inr (2, [.ref (b + 4), .null, .null, .int 0, .int 0])), (b + 4, cS cA b ad Z0 4), (b + 5, cS cA b ad Z0 5)] := hD
  refine va_putF (ci := 2) (C := rR2) (T := rT2) (N := 5) (ty := .array (.int)) hx hb hts in_c3 ry2 ft_c3 fn_c3 hown hC.1 hP hD hS 0 rfl rfl 1 (by decide) (hts _ t_48) (fun _ h9 => h9) rfl hnm rfl (by decide +kernel) rfl rfl (Nat.le_of_ble_eq_true rfl) d_icTokens_19 (fun H locs hP hD hS => ?_)
  have hP : va_P D kCl [(b + 3, .inr (2, [.ref (b + 4), .ref (b + 5), .null, .int 0, .int 0])), (b + 4, cS cA b ad Z0 4), (b + 5, cS cA b ad Z0 5)] H := hP
  have hD : va_D (Ab (b + 3)) [(b + 3, .inr (2, [.ref (b + 4), .ref (b + 5), .null, .int 0, .int 0])), (b + 4, cS cA b ad Z0 4), (b + 5, cS cA b ad Z0 5)] := hD
  refine kr_size (b := b) (n := 6) (by omega) (show b + 5 + 1 ≤ H.size from (hP 2 _ rfl).lt) (fun hz => ?_)
  refine lv_aload_n hx hb d_icTokens_22 rfl (lv_at hl 0 rfl) ?_
  refine lv_sipush (v := 481) hx hb d_icTokens_23 (by decide) ?_
  refine kr_arr (ad := ad) (atype := .long) (n := 6) (t := 1) (N := 481) hx hb hts t_65 rfl hP hD hS (by omega) hz (az_6 rfl) (hC.1.2 1 _ rfl).2 (fun _ => rfl) (by decide) (by decide) (by decide) (by rw [hR]; exact Nat.le_of_ble_eq_true rfl) (by rw [hR]; exact Nat.le_of_ble_eq_true rfl) d_icTokens_26 (fun H hP hD hS hz => ?_)
  have hP : va_P D kCl [(b + 3, .inr (2, [.ref (b + 4), .ref (b + 5), .null, .int 0, .int 0])), (b + 4, cS cA b ad Z0 4), (b + 5, cS cA b ad Z0 5), (b + 6, cS cA b ad Z0 6)] H := hP
  have hD : va_D (Ab (b + 3)) [(b + 3, .inr (2, [.ref (b + 4), .ref (b + 5), .null, .int 0, .int 0])), (b + 4, cS cA b ad Z0 4), (b + 5, cS cA b ad Z0 5), (b + 6, cS cA b ad Z0 6)] := hD
  refine va_putF (ci := 2) (C := rR2) (T := rT2) (N := 5) (ty := .array (.long)) hx hb hts in_c3 ry2 ft_c3 fn_c3 hown hC.1 hP hD hS 0 rfl rfl 2 (by decide) (hts _ t_49) (fun _ h9 => h9) rfl hnm rfl (by decide +kernel) rfl rfl (Nat.le_of_ble_eq_true rfl) d_icTokens_28 (fun H locs hP hD hS => ?_)
  have hP : va_P D kCl [(b + 3, .inr (2, [.ref (b + 4), .ref (b + 5), .ref (b + 6), .int 0, .int 0])), (b + 4, cS cA b ad Z0 4), (b + 5, cS cA b ad Z0 5), (b + 6, cS cA b ad Z0 6)] H := hP
  have hD : va_D (Ab (b + 3)) [(b + 3, .inr (2, [.ref (b + 4), .ref (b + 5), .ref (b + 6), .int 0, .int 0])), (b + 4, cS cA b ad Z0 4), (b + 5, cS cA b ad Z0 5), (b + 6, cS cA b ad Z0 6)] := hD
  refine kr_size (b := b) (n := 7) (by omega) (show b + 6 + 1 ≤ H.size from (hP 3 _ rfl).lt) (fun hz => ?_)
  have e0 : (b + 3, cS cA b ad Z0 3) = (b + 3, .inr (2, [.ref (b + 4), .ref (b + 5), .ref (b + 6), .int 0, .int 0])) := congrArg (Prod.mk (b + 3)) (rfl)
  rw [← e0] at hP
  have hP : va_P D kCl (wI cA b ad (List.range' 3 4)) H := hP
  exact kr_ret hQ hx hb hr hP hS (by omega) (by decide) (by decide) hlk d_icTokens_31
