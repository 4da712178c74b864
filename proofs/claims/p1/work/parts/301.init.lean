abbrev y_icRule : MethodName := ({ cls := "TypeGuard$Rule", name := "<init>", desc := "()V" } : Jvm.MethodName)
theorem d_icRule_0 : decode prog_8_method_1_code 0 = .ok (.aload_n 0, 1) := by decide +kernel
theorem d_icRule_1 : decode prog_8_method_1_code 1 = .ok (.invokespecial 3, 3) := by decide +kernel
theorem d_icRule_4 : decode prog_8_method_1_code 4 = .ok (.aload_n 0, 1) := by decide +kernel
theorem d_icRule_5 : decode prog_8_method_1_code 5 = .ok (.getstatic 9, 3) := by decide +kernel
theorem d_icRule_8 : decode prog_8_method_1_code 8 = .ok (.putfield 15, 3) := by decide +kernel
theorem d_icRule_11 : decode prog_8_method_1_code 11 = .ok (.aload_n 0, 1) := by decide +kernel
theorem d_icRule_12 : decode prog_8_method_1_code 12 = .ok (.iconst (-1), 1) := by decide +kernel
theorem d_icRule_13 : decode prog_8_method_1_code 13 = .ok (.putfield 20, 3) := by decide +kernel
theorem d_icRule_16 : decode prog_8_method_1_code 16 = .ok (.aload_n 0, 1) := by decide +kernel
theorem d_icRule_17 : decode prog_8_method_1_code 17 = .ok (.new 24, 3) := by decide +kernel
theorem d_icRule_20 : decode prog_8_method_1_code 20 = .ok (.dup, 1) := by decide +kernel
theorem d_icRule_21 : decode prog_8_method_1_code 21 = .ok (.invokespecial 26, 3) := by decide +kernel
theorem d_icRule_24 : decode prog_8_method_1_code 24 = .ok (.putfield 27, 3) := by decide +kernel
theorem d_icRule_27 : decode prog_8_method_1_code 27 = .ok (.aload_n 0, 1) := by decide +kernel
theorem d_icRule_28 : decode prog_8_method_1_code 28 = .ok (.new 24, 3) := by decide +kernel
theorem d_icRule_31 : decode prog_8_method_1_code 31 = .ok (.dup, 1) := by decide +kernel
theorem d_icRule_32 : decode prog_8_method_1_code 32 = .ok (.invokespecial 26, 3) := by decide +kernel
theorem d_icRule_35 : decode prog_8_method_1_code 35 = .ok (.putfield 31, 3) := by decide +kernel
theorem d_icRule_38 : decode prog_8_method_1_code 38 = .ok (.aload_n 0, 1) := by decide +kernel
theorem d_icRule_39 : decode prog_8_method_1_code 39 = .ok (.iconst 4, 1) := by decide +kernel
theorem d_icRule_40 : decode prog_8_method_1_code 40 = .ok (.newarray .int, 2) := by decide +kernel
theorem d_icRule_42 : decode prog_8_method_1_code 42 = .ok (.putfield 34, 3) := by decide +kernel
theorem d_icRule_45 : decode prog_8_method_1_code 45 = .ok (.aload_n 0, 1) := by decide +kernel
theorem d_icRule_46 : decode prog_8_method_1_code 46 = .ok (.iconst (-1), 1) := by decide +kernel
theorem d_icRule_47 : decode prog_8_method_1_code 47 = .ok (.putfield 38, 3) := by decide +kernel
theorem d_icRule_50 : decode prog_8_method_1_code 50 = .ok (.return_, 1) := by decide +kernel
set_option maxHeartbeats 8000000 in
set_option maxRecDepth 100000 in
theorem M_icRule {l : Launch} {D : va_G} {cA : Nat → ClassId} {b : Nat} {ad : Nat → Nat} {k : Nat} (hk : kd k = 14) : Met l y_icRule (Cond.code y_icRule prog_8_method_1_code 1 none :: TW) { frames := 2, cells := 3, slots := 16, locals := 40 } (va_Pc [.ref (b + k)] (Kp D cA b ad k (.inr (5, [.null, .int 0, .int 0, .int 0, .null, .null, .int 0, .int 0, .int 0, .int 0, .null, .int 0])))) (Kq D cA b ad k 4) 3 16 (Ab (b + k)) := by
  refine Ct_ofK (by decide) rfl (Nat.le_of_ble_eq_true rfl) ?_
  intro p e R s m args below meth c ls Q H hR hQ hx hb hts hown hml hr hlk hnm hC hA hs0 hP hD hS hz hl
  have hRf : R.frames = 2 := by rw [hR]
  have hRl : R.locals = 40 := by rw [hR]
  have hown : s.vm.findClass "TypeGuard$Rule" = some m.cls := hown
  have hl : lv_has ls 1 [(0, .ref (b + k))] := hl
  refine lv_aload_n hx hb d_icRule_0 rfl (lv_at hl 0 rfl) ?_
  refine W.objInit hx hb hown (hts _ t_95) (hts _ t_33) (hts _ t_34) rfl (hl.1.trans hml.symm) rfl d_icRule_1 (by rw [hRf]; decide) (by rw [hRl]; exact Nat.le_of_ble_eq_true rfl) ?_
  show W p l e R s m args below meth c H [] 0 0 Q (F0 m 4 ls [])
  refine lv_aload_n hx hb d_icRule_4 rfl (lv_at hl 0 rfl) ?_
  refine st_W (i := 0) hx hb hC (vS_up hS) hown (hts _ t_96) d_icRule_5 (by decide) ?_
  refine va_put (ci := 5) (C := rR5) (T := rT5) (N := 12) (ty := .object "TypeGuard$Word") hx hb hts in_c14 ry5 ft_c14 fn_c14 hown hC.1 hP hD hS 0 rfl rfl 0 (by decide) (hts _ t_130) (fun _ h9 => h9) rfl (by decide +kernel) rfl rfl (Nat.le_of_ble_eq_true rfl) d_icRule_8 (fun H locs hP hD hS => ?_)
  have hP : va_P D kCl [(b + k, .inr (5, [.ref (ad 0), .int 0, .int 0, .int 0, .null, .null, .int 0, .int 0, .int 0, .int 0, .null, .int 0]))] H := hP
  have hD : va_D (Ab (b + k)) [(b + k, .inr (5, [.ref (ad 0), .int 0, .int 0, .int 0, .null, .null, .int 0, .int 0, .int 0, .int 0, .null, .int 0]))] := hD
  refine kr_size (b := b) (n := (k + 1)) (by omega) (show b + k + 1 ≤ H.size from (hP 0 _ rfl).lt) (fun hz => ?_)
  refine lv_aload_n hx hb d_icRule_11 rfl (lv_at hl 0 rfl) ?_
  refine lv_iconst (v := (-1)) hx hb d_icRule_12 (by decide) ?_
  refine va_put (ci := 5) (C := rR5) (T := rT5) (N := 12) (ty := .int) hx hb hts in_c14 ry5 ft_c14 fn_c14 hown hC.1 hP hD hS 0 rfl rfl 2 (by decide) (hts _ t_135) (fun _ h9 => h9) rfl (by decide +kernel) rfl rfl (Nat.le_of_ble_eq_true rfl) d_icRule_13 (fun H locs hP hD hS => ?_)
  have hP : va_P D kCl [(b + k, .inr (5, [.ref (ad 0), .int 0, .int (-1), .int 0, .null, .null, .int 0, .int 0, .int 0, .int 0, .null, .int 0]))] H := hP
  have hD : va_D (Ab (b + k)) [(b + k, .inr (5, [.ref (ad 0), .int 0, .int (-1), .int 0, .null, .null, .int 0, .int 0, .int 0, .int 0, .null, .int 0]))] := hD
  refine kr_size (b := b) (n := (k + 1)) (by omega) (show b + k + 1 ≤ H.size from (hP 0 _ rfl).lt) (fun hz => ?_)
  refine lv_aload_n hx hb d_icRule_16 rfl (lv_at hl 0 rfl) ?_
  refine kr_new (n := (k + 1)) (C := rR6) (T := rT6) (N := 6) (ci := 6) (fs := [.int 0, .int 0, .int 0, .int 0, .int 0, .int 0]) hx hb hts in_c15 ry6 ft_c15 hown t_98 t_99 t_9 hC hP hS hz rfl (by decide +kernel) (by rw [hR]; exact Nat.le_of_ble_eq_true rfl) (by rw [hR]; exact Nat.le_of_ble_eq_true rfl) d_icRule_17 (fun H hP hlt hB hS hz => ?_)
  refine lv_dup hx hb d_icRule_20 rfl ?_
  refine kr_call (n := (k + 1)) (va_runIN (As := []) (rest := [.ref (b + (k + 1)), .ref (b + k)]) (n := 0) ⟨hx, hb, hml, hown, hts⟩ (M_icTypeSet (kx_14_1 hk)) ⟨va_cnB 0 hts (good_TW t_102) rfl rfl rfl (hC.2.1 _ t_100) (hts _ t_9) (by decide +kernel) ⟨by rw [hRf]; decide, by rw [hRl]; decide⟩, rfl, hts _ t_101⟩ ⟨Kp_blind, Kp_pre hC hA hz hB hS⟩ rfl rfl hl.1 rfl (lv_room (Nat.le_of_ble_eq_true rfl)) d_icRule_21 ⟨(by rw [hR]; exact Nat.le_of_ble_eq_true rfl), (by rw [hR]; exact Nat.le_of_ble_eq_true rfl)⟩) hP hlt hD hS hz (by omega) (fun H locs hP hD hS hz => ?_)
  have hP : va_P D kCl [(b + k, .inr (5, [.ref (ad 0), .int 0, .int (-1), .int 0, .null, .null, .int 0, .int 0, .int 0, .int 0, .null, .int 0])), (b + (k + 1), cS cA b ad Z0 (k + 1))] H := hP
  have hD : va_D (Ab (b + k)) [(b + k, .inr (5, [.ref (ad 0), .int 0, .int (-1), .int 0, .null, .null, .int 0, .int 0, .int 0, .int 0, .null, .int 0])), (b + (k + 1), cS cA b ad Z0 (k + 1))] := hD
  refine va_putF (ci := 5) (C := rR5) (T := rT5) (N := 12) (ty := .object "TypeGuard$TypeSet") hx hb hts in_c14 ry5 ft_c14 fn_c14 hown hC.1 hP hD hS 0 rfl rfl 4 (by decide) (hts _ t_139) (fun _ h9 => h9) rfl hnm rfl (by decide +kernel) rfl rfl (Nat.le_of_ble_eq_true rfl) d_icRule_24 (fun H locs hP hD hS => ?_)
  have hP : va_P D kCl [(b + k, .inr (5, [.ref (ad 0), .int 0, .int (-1), .int 0, .ref (b + (k + 1)), .null, .int 0, .int 0, .int 0, .int 0, .null, .int 0])), (b + (k + 1), cS cA b ad Z0 (k + 1))] H := hP
  have hD : va_D (Ab (b + k)) [(b + k, .inr (5, [.ref (ad 0), .int 0, .int (-1), .int 0, .ref (b + (k + 1)), .null, .int 0, .int 0, .int 0, .int 0, .null, .int 0])), (b + (k + 1), cS cA b ad Z0 (k + 1))] := hD
  refine kr_size (b := b) (n := (k + 2)) (by omega) (show b + (k + 1) + 1 ≤ H.size from (hP 1 _ rfl).lt) (fun hz => ?_)
  refine lv_aload_n hx hb d_icRule_27 rfl (lv_at hl 0 rfl) ?_
  refine kr_new (n := (k + 2)) (C := rR6) (T := rT6) (N := 6) (ci := 6) (fs := [.int 0, .int 0, .int 0, .int 0, .int 0, .int 0]) hx hb hts in_c15 ry6 ft_c15 hown t_98 t_99 t_9 hC hP hS hz rfl (by decide +kernel) (by rw [hR]; exact Nat.le_of_ble_eq_true rfl) (by rw [hR]; exact Nat.le_of_ble_eq_true rfl) d_icRule_28 (fun H hP hlt hB hS hz => ?_)
  refine lv_dup hx hb d_icRule_31 rfl ?_
  refine kr_call (n := (k + 2)) (va_runIN (As := []) (rest := [.ref (b + (k + 2)), .ref (b + k)]) (n := 0) ⟨hx, hb, hml, hown, hts⟩ (M_icTypeSet (kx_14_2 hk)) ⟨va_cnB 0 hts (good_TW t_102) rfl rfl rfl (hC.2.1 _ t_100) (hts _ t_9) (by decide +kernel) ⟨by rw [hRf]; decide, by rw [hRl]; decide⟩, rfl, hts _ t_101⟩ ⟨Kp_blind, Kp_pre hC hA hz hB hS⟩ rfl rfl hl.1 rfl (lv_room (Nat.le_of_ble_eq_true rfl)) d_icRule_32 ⟨(by rw [hR]; exact Nat.le_of_ble_eq_true rfl), (by rw [hR]; exact Nat.le_of_ble_eq_true rfl)⟩) hP hlt hD hS hz (by omega) (fun H locs hP hD hS hz => ?_)
  have hP : va_P D kCl [(b + k, .inr (5, [.ref (ad 0), .int 0, .int (-1), .int 0, .ref (b + (k + 1)), .null, .int 0, .int 0, .int 0, .int 0, .null, .int 0])), (b + (k + 1), cS cA b ad Z0 (k + 1)), (b + (k + 2), cS cA b ad Z0 (k + 2))] H := hP
  have hD : va_D (Ab (b + k)) [(b + k, .inr (5, [.ref (ad 0), .int 0, .int (-1), .int 0, .ref (b + (k + 1)), .null, .int 0, .int 0, .int 0, .int 0, .null, .int 0])), (b + (k + 1), cS cA b ad Z0 (k + 1)), (b + (k + 2), cS cA b ad Z0 (k + 2))] := hD
  refine va_putF (ci := 5) (C := rR5) (T := rT5) (N := 12) (ty := .object "TypeGuard$TypeSet") hx hb hts in_c14 ry5 ft_c14 fn_c14 hown hC.1 hP hD hS 0 rfl rfl 5 (by decide) (hts _ t_142) (fun _ h9 => h9) rfl hnm rfl (by decide +kernel) rfl rfl (Nat.le_of_ble_eq_true rfl) d_icRule_35 (fun H locs hP hD hS => ?_)
  have hP : va_P D kCl [(b + k, .inr (5, [.ref (ad 0), .int 0, .int (-1), .int 0, .ref (b + (k + 1)), .ref (b + (k + 2)), .int 0, .int 0, .int 0, .int 0, .null, .int 0])), (b + (k + 1), cS cA b ad Z0 (k + 1)), (b + (k + 2), cS cA b ad Z0 (k + 2))] H := hP
  have hD : va_D (Ab (b + k)) [(b + k, .inr (5, [.ref (ad 0), .int 0, .int (-1), .int 0, .ref (b + (k + 1)), .ref (b + (k + 2)), .int 0, .int 0, .int 0, .int 0, .null, .int 0])), (b + (k + 1), cS cA b ad Z0 (k + 1)), (b + (k + 2), cS cA b ad Z0 (k + 2))] := hD
  refine kr_size (b := b) (n := (k + 3)) (by omega) (show b + (k + 2) + 1 ≤ H.size from (hP 2 _ rfl).lt) (fun hz => ?_)
  refine lv_aload_n hx hb d_icRule_38 rfl (lv_at hl 0 rfl) ?_
  refine lv_iconst (v := 4) hx hb d_icRule_39 (by decide) ?_
  refine kr_arr (ad := ad) (atype := .int) (n := (k + 3)) (t := 0) (N := 4) hx hb hts t_64 rfl hP hD hS (by omega) hz (az_16 (kx_14_3 hk)) (hC.1.2 0 _ rfl).2 (fun _ => rfl) (by decide) (by decide) (by decide) (by rw [hR]; exact Nat.le_of_ble_eq_true rfl) (by rw [hR]; exact Nat.le_of_ble_eq_true rfl) d_icRule_40 (fun H hP hD hS hz => ?_)
  have hP : va_P D kCl [(b + k, .inr (5, [.ref (ad 0), .int 0, .int (-1), .int 0, .ref (b + (k + 1)), .ref (b + (k + 2)), .int 0, .int 0, .int 0, .int 0, .null, .int 0])), (b + (k + 1), cS cA b ad Z0 (k + 1)), (b + (k + 2), cS cA b ad Z0 (k + 2)), (b + (k + 3), cS cA b ad Z0 (k + 3))] H := hP
  have hD : va_D (Ab (b + k)) [(b + k, .inr (5, [.ref (ad 0), .int 0, .int (-1), .int 0, .ref (b + (k + 1)), .ref (b + (k + 2)), .int 0, .int 0, .int 0, .int 0, .null, .int 0])), (b + (k + 1), cS cA b ad Z0 (k + 1)), (b + (k + 2), cS cA b ad Z0 (k + 2)), (b + (k + 3), cS cA b ad Z0 (k + 3))] := hD
  refine va_putF (ci := 5) (C := rR5) (T := rT5) (N := 12) (ty := .array (.int)) hx hb hts in_c14 ry5 ft_c14 fn_c14 hown hC.1 hP hD hS 0 rfl rfl 10 (by decide) (hts _ t_154) (fun _ h9 => h9) rfl hnm rfl (by decide +kernel) rfl rfl (Nat.le_of_ble_eq_true rfl) d_icRule_42 (fun H locs hP hD hS => ?_)
  have hP : va_P D kCl [(b + k, .inr (5, [.ref (ad 0), .int 0, .int (-1), .int 0, .ref (b + (k + 1)), .ref (b + (k + 2)), .int 0, .int 0, .int 0, .int 0, .ref (b + (k + 3)), .int 0])), (b + (k + 1), cS cA b ad Z0 (k + 1)), (b + (k + 2), cS cA b ad Z0 (k + 2)), (b + (k + 3), cS cA b ad Z0 (k + 3))] H := hP
  have hD : va_D (Ab (b + k)) [(b + k, .inr (5, [.ref (ad 0), .int 0, .int (-1), .int 0, .ref (b + (k + 1)), .ref (b + (k + 2)), .int 0, .int 0, .int 0, .int 0, .ref (b + (k + 3)), .int 0])), (b + (k + 1), cS cA b ad Z0 (k + 1)), (b + (k + 2), cS cA b ad Z0 (k + 2)), (b + (k + 3), cS cA b ad Z0 (k + 3))] := hD
  refine kr_size (b := b) (n := (k + 4)) (by omega) (show b + (k + 3) + 1 ≤ H.size from (hP 3 _ rfl).lt) (fun hz => ?_)
  refine lv_aload_n hx hb d_icRule_45 rfl (lv_at hl 0 rfl) ?_
  refine lv_iconst (v := (-1)) hx hb d_icRule_46 (by decide) ?_
  refine va_put (ci := 5) (C := rR5) (T := rT5) (N := 12) (ty := .int) hx hb hts in_c14 ry5 ft_c14 fn_c14 hown hC.1 hP hD hS 0 rfl rfl 11 (by decide) (hts _ t_157) (fun _ h9 => h9) rfl (by decide +kernel) rfl rfl (Nat.le_of_ble_eq_true rfl) d_icRule_47 (fun H locs hP hD hS => ?_)
  have hP : va_P D kCl [(b + k, .inr (5, [.ref (ad 0), .int 0, .int (-1), .int 0, .ref (b + (k + 1)), .ref (b + (k + 2)), .int 0, .int 0, .int 0, .int 0, .ref (b + (k + 3)), .int (-1)])), (b + (k + 1), cS cA b ad Z0 (k + 1)), (b + (k + 2), cS cA b ad Z0 (k + 2)), (b + (k + 3), cS cA b ad Z0 (k + 3))] H := hP
  have hD : va_D (Ab (b + k)) [(b + k, .inr (5, [.ref (ad 0), .int 0, .int (-1), .int 0, .ref (b + (k + 1)), .ref (b + (k + 2)), .int 0, .int 0, .int 0, .int 0, .ref (b + (k + 3)), .int (-1)])), (b + (k + 1), cS cA b ad Z0 (k + 1)), (b + (k + 2), cS cA b ad Z0 (k + 2)), (b + (k + 3), cS cA b ad Z0 (k + 3))] := hD
  refine kr_size (b := b) (n := (k + 4)) (by omega) (show b + (k + 3) + 1 ≤ H.size from (hP 3 _ rfl).lt) (fun hz => ?_)
  have e0 : (b + k, cS cA b ad Z0 k) = (b + k, .inr (5, [.ref (ad 0), .int 0, .int (-1), .int 0, .ref (b + (k + 1)), .ref (b + (k + 2)), .int 0, .int 0, .int 0, .int 0, .ref (b + (k + 3)), .int (-1)])) := congrArg (Prod.mk (b + k)) (oz_14 hk)
  rw [← e0] at hP
  have hP : va_P D kCl (wI cA b ad (List.range' k 4)) H := hP
  exact kr_ret hQ hx hb hr hP hS (by omega) (by decide) (by decide) hlk d_icRule_50
