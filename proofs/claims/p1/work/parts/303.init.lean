abbrev y_icVectorCache : MethodName := ({ cls := "TypeGuard$VectorCache", name := "<init>", desc := "()V" } : Jvm.MethodName)
theorem d_icVectorCache_0 : decode prog_11_method_1_code 0 = .ok (.aload_n 0, 1) := by decide +kernel
theorem d_icVectorCache_1 : decode prog_11_method_1_code 1 = .ok (.invokespecial 3, 3) := by decide +kernel
theorem d_icVectorCache_4 : decode prog_11_method_1_code 4 = .ok (.aload_n 0, 1) := by decide +kernel
theorem d_icVectorCache_5 : decode prog_11_method_1_code 5 = .ok (.bipush 6, 2) := by decide +kernel
theorem d_icVectorCache_7 : decode prog_11_method_1_code 7 = .ok (.anewarray 9, 3) := by decide +kernel
theorem d_icVectorCache_10 : decode prog_11_method_1_code 10 = .ok (.putfield 11, 3) := by decide +kernel
theorem d_icVectorCache_13 : decode prog_11_method_1_code 13 = .ok (.iconst 0, 1) := by decide +kernel
theorem d_icVectorCache_14 : decode prog_11_method_1_code 14 = .ok (.istore_n 1, 1) := by decide +kernel
theorem d_icVectorCache_15 : decode prog_11_method_1_code 15 = .ok (.iload_n 1, 1) := by decide +kernel
theorem d_icVectorCache_16 : decode prog_11_method_1_code 16 = .ok (.bipush 6, 2) := by decide +kernel
theorem d_icVectorCache_18 : decode prog_11_method_1_code 18 = .ok (.if_icmp .ge 22, 3) := by decide +kernel
theorem d_icVectorCache_21 : decode prog_11_method_1_code 21 = .ok (.aload_n 0, 1) := by decide +kernel
theorem d_icVectorCache_22 : decode prog_11_method_1_code 22 = .ok (.getfield 11, 3) := by decide +kernel
theorem d_icVectorCache_25 : decode prog_11_method_1_code 25 = .ok (.iload_n 1, 1) := by decide +kernel
theorem d_icVectorCache_26 : decode prog_11_method_1_code 26 = .ok (.new 9, 3) := by decide +kernel
theorem d_icVectorCache_29 : decode prog_11_method_1_code 29 = .ok (.dup, 1) := by decide +kernel
theorem d_icVectorCache_30 : decode prog_11_method_1_code 30 = .ok (.invokespecial 17, 3) := by decide +kernel
theorem d_icVectorCache_33 : decode prog_11_method_1_code 33 = .ok (.aastore, 1) := by decide +kernel
theorem d_icVectorCache_34 : decode prog_11_method_1_code 34 = .ok (.iinc 1 1, 3) := by decide +kernel
theorem d_icVectorCache_37 : decode prog_11_method_1_code 37 = .ok (.goto (-22), 3) := by decide +kernel
theorem d_icVectorCache_40 : decode prog_11_method_1_code 40 = .ok (.return_, 1) := by decide +kernel
set_option maxHeartbeats 8000000 in
set_option maxRecDepth 100000 in
theorem M_icVectorCache {l : Launch} {D : va_G} {cA : Nat → ClassId} {b : Nat} {ad : Nat → Nat} : Met l y_icVectorCache (Cond.code y_icVectorCache prog_11_method_1_code 2 none :: TW) { frames := 2, cells := 7, slots := 54, locals := 40 } (va_Pc [.ref (b + 244)] (Kp D cA b ad 244 (.inr (8, [.null, .int 0, .int 0, .int 0, .int 0])))) (Kq D cA b ad 244 8) 7 54 (Ab (b + 244)) := by
  refine Ct_ofK (by decide) rfl (Nat.le_of_ble_eq_true rfl) ?_
  intro p e R s m args below meth c ls Q H hR hQ hx hb hts hown hml hr hlk hnm hC hA hs0 hP hD hS hz hl
  have hRf : R.frames = 2 := by rw [hR]
  have hRl : R.locals = 40 := by rw [hR]
  have hown : s.vm.findClass "TypeGuard$VectorCache" = some m.cls := hown
  have hl : lv_has ls 2 [(0, .ref (b + 244))] := hl
  refine lv_aload_n hx hb d_icVectorCache_0 rfl (lv_at hl 0 rfl) ?_
  refine W.objInit hx hb hown (hts _ t_255) (hts _ t_33) (hts _ t_34) rfl (hl.1.trans hml.symm) rfl d_icVectorCache_1 (by rw [hRf]; decide) (by rw [hRl]; exact Nat.le_of_ble_eq_true rfl) ?_
  show W p l e R s m args below meth c H [] 0 0 Q (F0 m 4 ls [])
  refine lv_aload_n hx hb d_icVectorCache_4 rfl (lv_at hl 0 rfl) ?_
  refine lv_bipush (v := 6) hx hb d_icVectorCache_5 (by decide) ?_
  refine kr_anew (n := 245) (t := 6) (N := 6) hx hb hts hown t_256 hA.2.2.1 hP hD hS (by omega) hz (hC.1.2 6 _ rfl).2 (by decide) (by decide) (by decide) (by rw [hR]; exact Nat.le_of_ble_eq_true rfl) (by rw [hR]; exact Nat.le_of_ble_eq_true rfl) d_icVectorCache_7 (fun H hP hD hS hz => ?_)
  have hP : va_P D kCl [(b + 244, .inr (8, [.null, .int 0, .int 0, .int 0, .int 0])), (b + 245, .inl (cA 6, 6, .inr (.inr (.inr (.inr (fun _ => none))))))] H := hP
  have hD : va_D (Ab (b + 244)) [(b + 244, .inr (8, [.null, .int 0, .int 0, .int 0, .int 0])), (b + 245, .inl (cA 6, 6, .inr (.inr (.inr (.inr (fun _ => none))))))] := hD
  refine va_putF (ci := 8) (C := rR8) (T := rT8) (N := 5) (ty := .array (.object "TypeGuard$Entry")) hx hb hts in_c20 ry8 ft_c20 fn_c20 hown hC.1 hP hD hS 0 rfl rfl 0 (by decide) (hts _ t_293) (fun _ h9 => h9) rfl hnm rfl (by decide +kernel) rfl rfl (Nat.le_of_ble_eq_true rfl) d_icVectorCache_10 (fun H locs hP hD hS => ?_)
  have hP : va_P D kCl [(b + 244, .inr (8, [.ref (b + 245), .int 0, .int 0, .int 0, .int 0])), (b + 245, .inl (cA 6, 6, .inr (.inr (.inr (.inr (fun _ => none))))))] H := hP
  have hD : va_D (Ab (b + 244)) [(b + 244, .inr (8, [.ref (b + 245), .int 0, .int 0, .int 0, .int 0])), (b + 245, .inl (cA 6, 6, .inr (.inr (.inr (.inr (fun _ => none))))))] := hD
  refine kr_size (b := b) (n := 246) (by omega) (show b + 245 + 1 ≤ H.size from (hP 1 _ rfl).lt) (fun hz => ?_)
  refine lv_iconst (v := 0) hx hb d_icVectorCache_13 (by decide) ?_
  refine lv_istore_n (lv' := [(1, .int 0), (0, .ref (b + 244))]) hx hb d_icVectorCache_14 rfl hl (by decide) rfl (fun ls hl => ?_)
  refine lv_iload_n hx hb d_icVectorCache_15 rfl (lv_at hl 0 rfl) ?_
  refine lv_bipush (v := 6) hx hb d_icVectorCache_16 (by decide) ?_
  refine lv_icmp_ge hx hb d_icVectorCache_18 (tgt := 40) (by decide) (fun hc => ?_) (fun hc => ?_)
  · exact absurd hc (by decide)
  refine lv_aload_n hx hb d_icVectorCache_21 rfl (lv_at hl 1 rfl) ?_
  refine va_get (ci := 8) (C := rR8) (T := rT8) (N := 5) hx hb hts in_c20 hown hC.1 hP 0 rfl rfl 0 (by decide) (hts _ t_293) (fun _ h9 => h9) rfl d_icVectorCache_22 ?_
  refine lv_iload_n hx hb d_icVectorCache_25 rfl (lv_at hl 0 rfl) ?_
  refine kr_new (n := 246) (C := rR7) (T := rT7) (N := 8) (ci := 7) (fs := [.int 0, .int 0, .int 0, .int 0, .int 0, .int 0, .int 0, .int 0]) hx hb hts in_c22 ry7 ft_c22 hown t_256 t_258 t_11 hC hP hS hz rfl (by decide +kernel) (by rw [hR]; exact Nat.le_of_ble_eq_true rfl) (by rw [hR]; exact Nat.le_of_ble_eq_true rfl) d_icVectorCache_26 (fun H hP hlt hB hS hz => ?_)
  refine lv_dup hx hb d_icVectorCache_29 rfl ?_
  refine kr_call (n := 246) (va_runIN (As := []) (rest := [.ref (b + 246), .int 0, .ref (b + 245)]) (n := 0) ⟨hx, hb, hml, hown, hts⟩ (M_icEntry (by rfl)) ⟨va_cnB 0 hts (good_TW t_261) rfl rfl rfl (hC.2.1 _ t_259) (hts _ t_11) (by decide +kernel) ⟨by rw [hRf]; decide, by rw [hRl]; decide⟩, rfl, hts _ t_260⟩ ⟨Kp_blind, Kp_pre hC hA hz hB hS⟩ rfl rfl hl.1 rfl (lv_room (Nat.le_of_ble_eq_true rfl)) d_icVectorCache_30 ⟨(by rw [hR]; exact Nat.le_of_ble_eq_true rfl), (by rw [hR]; exact Nat.le_of_ble_eq_true rfl)⟩) hP hlt hD hS hz (by omega) (fun H locs hP hD hS hz => ?_)
  have hP : va_P D kCl ([(b + 244, .inr (8, [.ref (b + 245), .int 0, .int 0, .int 0, .int 0])), (b + 245, .inl (cA 6, 6, .inr (.inr (.inr (.inr (fun _ => none))))))] ++ wI cA b ad (List.range' 246 1)) H := hP
  have hD : va_D (Ab (b + 244)) ([(b + 244, .inr (8, [.ref (b + 245), .int 0, .int 0, .int 0, .int 0])), (b + 245, .inl (cA 6, 6, .inr (.inr (.inr (.inr (fun _ => none))))))] ++ wI cA b ad (List.range' 246 1)) := hD
  refine va_astq (a := b + 245) (v := b + 246) hx hb hC.1 hP hD hS 1 6 2 7 (r := (rR7, rT7, 8)) rfl rfl (wat rfl (oz_22 rfl)) rfl (inbd_in (i := 0) (n := 6) (by decide)) d_icVectorCache_33 (fun H locs hP hD hS => ?_)
  have hP : va_P D kCl ([(b + 244, .inr (8, [.ref (b + 245), .int 0, .int 0, .int 0, .int 0])), (b + 245, .inl (cA 6, 6, .inr (.inr (.inr (.inr (va_up (fun _ => none) 0 (some (b + 246))))))))] ++ wI cA b ad (List.range' 246 1)) H := hP
  have hD : va_D (Ab (b + 244)) ([(b + 244, .inr (8, [.ref (b + 245), .int 0, .int 0, .int 0, .int 0])), (b + 245, .inl (cA 6, 6, .inr (.inr (.inr (.inr (va_up (fun _ => none) 0 (some (b + 246))))))))] ++ wI cA b ad (List.range' 246 1)) := hD
  refine kr_size (b := b) (n := 247) (by omega) (show b + 247 ≤ H.size from P_lt (a := 246) (m := 1) (by decide) hP) (fun hz => ?_)
  refine lv_iinc (v := 1) (lv' := [(1, .int 1), (0, .ref (b + 244))]) hx hb d_icVectorCache_34 hl (k := 0) rfl (by decide) (by decide) rfl (fun ls hl => ?_)
  refine lv_goto hx hb d_icVectorCache_37 (tgt := 15) (by decide) ?_
  refine lv_iload_n hx hb d_icVectorCache_15 rfl (lv_at hl 0 rfl) ?_
  refine lv_bipush (v := 6) hx hb d_icVectorCache_16 (by decide) ?_
  refine lv_icmp_ge hx hb d_icVectorCache_18 (tgt := 40) (by decide) (fun hc => ?_) (fun hc => ?_)
  · exact absurd hc (by decide)
  refine lv_aload_n hx hb d_icVectorCache_21 rfl (lv_at hl 1 rfl) ?_
  refine va_get (ci := 8) (C := rR8) (T := rT8) (N := 5) hx hb hts in_c20 hown hC.1 hP 0 rfl rfl 0 (by decide) (hts _ t_293) (fun _ h9 => h9) rfl d_icVectorCache_22 ?_
  refine lv_iload_n hx hb d_icVectorCache_25 rfl (lv_at hl 0 rfl) ?_
  refine kr_new (n := 247) (C := rR7) (T := rT7) (N := 8) (ci := 7) (fs := [.int 0, .int 0, .int 0, .int 0, .int 0, .int 0, .int 0, .int 0]) hx hb hts in_c22 ry7 ft_c22 hown t_256 t_258 t_11 hC hP hS hz rfl (by decide +kernel) (by rw [hR]; exact Nat.le_of_ble_eq_true rfl) (by rw [hR]; exact Nat.le_of_ble_eq_true rfl) d_icVectorCache_26 (fun H hP hlt hB hS hz => ?_)
  refine lv_dup hx hb d_icVectorCache_29 rfl ?_
  refine kr_call (n := 247) (va_runIN (As := []) (rest := [.ref (b + 247), .int 1, .ref (b + 245)]) (n := 0) ⟨hx, hb, hml, hown, hts⟩ (M_icEntry (by rfl)) ⟨va_cnB 0 hts (good_TW t_261) rfl rfl rfl (hC.2.1 _ t_259) (hts _ t_11) (by decide +kernel) ⟨by rw [hRf]; decide, by rw [hRl]; decide⟩, rfl, hts _ t_260⟩ ⟨Kp_blind, Kp_pre hC hA hz hB hS⟩ rfl rfl hl.1 rfl (lv_room (Nat.le_of_ble_eq_true rfl)) d_icVectorCache_30 ⟨(by rw [hR]; exact Nat.le_of_ble_eq_true rfl), (by rw [hR]; exact Nat.le_of_ble_eq_true rfl)⟩) hP hlt hD hS hz (by omega) (fun H locs hP hD hS hz => ?_)
  have hP : va_P D kCl ([(b + 244, .inr (8, [.ref (b + 245), .int 0, .int 0, .int 0, .int 0])), (b + 245, .inl (cA 6, 6, .inr (.inr (.inr (.inr (va_up (fun _ => none) 0 (some (b + 246))))))))] ++ wI cA b ad (List.range' 246 2)) H := P_cat (a := 246) (m := 1) (a' := 247) (sz := 1) hP (by omega)
  have hD : va_D (Ab (b + 244)) ([(b + 244, .inr (8, [.ref (b + 245), .int 0, .int 0, .int 0, .int 0])), (b + 245, .inl (cA 6, 6, .inr (.inr (.inr (.inr (va_up (fun _ => none) 0 (some (b + 246))))))))] ++ wI cA b ad (List.range' 246 2)) := D_cat (a := 246) (m := 1) (a' := 247) (sz := 1) hD (by omega)
  refine va_astq (a := b + 245) (v := b + 247) hx hb hC.1 hP hD hS 1 6 3 7 (r := (rR7, rT7, 8)) rfl rfl (wat rfl (oz_22 rfl)) rfl (inbd_in (i := 1) (n := 6) (by decide)) d_icVectorCache_33 (fun H locs hP hD hS => ?_)
  have hP : va_P D kCl ([(b + 244, .inr (8, [.ref (b + 245), .int 0, .int 0, .int 0, .int 0])), (b + 245, .inl (cA 6, 6, .inr (.inr (.inr (.inr (va_up (va_up (fun _ => none) 0 (some (b + 246))) 1 (some (b + 247))))))))] ++ wI cA b ad (List.range' 246 2)) H := hP
  have hD : va_D (Ab (b + 244)) ([(b + 244, .inr (8, [.ref (b + 245), .int 0, .int 0, .int 0, .int 0])), (b + 245, .inl (cA 6, 6, .inr (.inr (.inr (.inr (va_up (va_up (fun _ => none) 0 (some (b + 246))) 1 (some (b + 247))))))))] ++ wI cA b ad (List.range' 246 2)) := hD
  refine kr_size (b := b) (n := 248) (by omega) (show b + 248 ≤ H.size from P_lt (a := 246) (m := 2) (by decide) hP) (fun hz => ?_)
  refine lv_iinc (v := 2) (lv' := [(1, .int 2), (0, .ref (b + 244))]) hx hb d_icVectorCache_34 hl (k := 0) rfl (by decide) (by decide) rfl (fun ls hl => ?_)
  refine lv_goto hx hb d_icVectorCache_37 (tgt := 15) (by decide) ?_
  refine lv_iload_n hx hb d_icVectorCache_15 rfl (lv_at hl 0 rfl) ?_
  refine lv_bipush (v := 6) hx hb d_icVectorCache_16 (by decide) ?_
  refine lv_icmp_ge hx hb d_icVectorCache_18 (tgt := 40) (by decide) (fun hc => ?_) (fun hc => ?_)
  · exact absurd hc (by decide)
  refine lv_aload_n hx hb d_icVectorCache_21 rfl (lv_at hl 1 rfl) ?_
  refine va_get (ci := 8) (C := rR8) (T := rT8) (N := 5) hx hb hts in_c20 hown hC.1 hP 0 rfl rfl 0 (by decide) (hts _ t_293) (fun _ h9 => h9) rfl d_icVectorCache_22 ?_
  refine lv_iload_n hx hb d_icVectorCache_25 rfl (lv_at hl 0 rfl) ?_
  refine kr_new (n := 248) (C := rR7) (T := rT7) (N := 8) (ci := 7) (fs := [.int 0, .int 0, .int 0, .int 0, .int 0, .int 0, .int 0, .int 0]) hx hb hts in_c22 ry7 ft_c22 hown t_256 t_258 t_11 hC hP hS hz rfl (by decide +kernel) (by rw [hR]; exact Nat.le_of_ble_eq_true rfl) (by rw [hR]; exact Nat.le_of_ble_eq_true rfl) d_icVectorCache_26 (fun H hP hlt hB hS hz => ?_)
  refine lv_dup hx hb d_icVectorCache_29 rfl ?_
  refine kr_call (n := 248) (va_runIN (As := []) (rest := [.ref (b + 248), .int 2, .ref (b + 245)]) (n := 0) ⟨hx, hb, hml, hown, hts⟩ (M_icEntry (by rfl)) ⟨va_cnB 0 hts (good_TW t_261) rfl rfl rfl (hC.2.1 _ t_259) (hts _ t_11) (by decide +kernel) ⟨by rw [hRf]; decide, by rw [hRl]; decide⟩, rfl, hts _ t_260⟩ ⟨Kp_blind, Kp_pre hC hA hz hB hS⟩ rfl rfl hl.1 rfl (lv_room (Nat.le_of_ble_eq_true rfl)) d_icVectorCache_30 ⟨(by rw [hR]; exact Nat.le_of_ble_eq_true rfl), (by rw [hR]; exact Nat.le_of_ble_eq_true rfl)⟩) hP hlt hD hS hz (by omega) (fun H locs hP hD hS hz => ?_)
  have hP : va_P D kCl ([(b + 244, .inr (8, [.ref (b + 245), .int 0, .int 0, .int 0, .int 0])), (b + 245, .inl (cA 6, 6, .inr (.inr (.inr (.inr (va_up (va_up (fun _ => none) 0 (some (b + 246))) 1 (some (b + 247))))))))] ++ wI cA b ad (List.range' 246 3)) H := P_cat (a := 246) (m := 2) (a' := 248) (sz := 1) hP (by omega)
  have hD : va_D (Ab (b + 244)) ([(b + 244, .inr (8, [.ref (b + 245), .int 0, .int 0, .int 0, .int 0])), (b + 245, .inl (cA 6, 6, .inr (.inr (.inr (.inr (va_up (va_up (fun _ => none) 0 (some (b + 246))) 1 (some (b + 247))))))))] ++ wI cA b ad (List.range' 246 3)) := D_cat (a := 246) (m := 2) (a' := 248) (sz := 1) hD (by omega)
  refine va_astq (a := b + 245) (v := b + 248) hx hb hC.1 hP hD hS 1 6 4 7 (r := (rR7, rT7, 8)) rfl rfl (wat rfl (oz_22 rfl)) rfl (inbd_in (i := 2) (n := 6) (by decide)) d_icVectorCache_33 (fun H locs hP hD hS => ?_)
  have hP : va_P D kCl ([(b + 244, .inr (8, [.ref (b + 245), .int 0, .int 0, .int 0, .int 0])), (b + 245, .inl (cA 6, 6, .inr (.inr (.inr (.inr (va_up (va_up (va_up (fun _ => none) 0 (some (b + 246))) 1 (some (b + 247))) 2 (some (b + 248))))))))] ++ wI cA b ad (List.range' 246 3)) H := hP
  have hD : va_D (Ab (b + 244)) ([(b + 244, .inr (8, [.ref (b + 245), .int 0, .int 0, .int 0, .int 0])), (b + 245, .inl (cA 6, 6, .inr (.inr (.inr (.inr (va_up (va_up (va_up (fun _ => none) 0 (some (b + 246))) 1 (some (b + 247))) 2 (some (b + 248))))))))] ++ wI cA b ad (List.range' 246 3)) := hD
  refine kr_size (b := b) (n := 249) (by omega) (show b + 249 ≤ H.size from P_lt (a := 246) (m := 3) (by decide) hP) (fun hz => ?_)
  refine lv_iinc (v := 3) (lv' := [(1, .int 3), (0, .ref (b + 244))]) hx hb d_icVectorCache_34 hl (k := 0) rfl (by decide) (by decide) rfl (fun ls hl => ?_)
  refine lv_goto hx hb d_icVectorCache_37 (tgt := 15) (by decide) ?_
  refine lv_iload_n hx hb d_icVectorCache_15 rfl (lv_at hl 0 rfl) ?_
  refine lv_bipush (v := 6) hx hb d_icVectorCache_16 (by decide) ?_
  refine lv_icmp_ge hx hb d_icVectorCache_18 (tgt := 40) (by decide) (fun hc => ?_) (fun hc => ?_)
  · exact absurd hc (by decide)
  refine lv_aload_n hx hb d_icVectorCache_21 rfl (lv_at hl 1 rfl) ?_
  refine va_get (ci := 8) (C := rR8) (T := rT8) (N := 5) hx hb hts in_c20 hown hC.1 hP 0 rfl rfl 0 (by decide) (hts _ t_293) (fun _ h9 => h9) rfl d_icVectorCache_22 ?_
  refine lv_iload_n hx hb d_icVectorCache_25 rfl (lv_at hl 0 rfl) ?_
  refine kr_new (n := 249) (C := rR7) (T := rT7) (N := 8) (ci := 7) (fs := [.int 0, .int 0, .int 0, .int 0, .int 0, .int 0, .int 0, .int 0]) hx hb hts in_c22 ry7 ft_c22 hown t_256 t_258 t_11 hC hP hS hz rfl (by decide +kernel) (by rw [hR]; exact Nat.le_of_ble_eq_true rfl) (by rw [hR]; exact Nat.le_of_ble_eq_true rfl) d_icVectorCache_26 (fun H hP hlt hB hS hz => ?_)
  refine lv_dup hx hb d_icVectorCache_29 rfl ?_
  refine kr_call (n := 249) (va_runIN (As := []) (rest := [.ref (b + 249), .int 3, .ref (b + 245)]) (n := 0) ⟨hx, hb, hml, hown, hts⟩ (M_icEntry (by rfl)) ⟨va_cnB 0 hts (good_TW t_261) rfl rfl rfl (hC.2.1 _ t_259) (hts _ t_11) (by decide +kernel) ⟨by rw [hRf]; decide, by rw [hRl]; decide⟩, rfl, hts _ t_260⟩ ⟨Kp_blind, Kp_pre hC hA hz hB hS⟩ rfl rfl hl.1 rfl (lv_room (Nat.le_of_ble_eq_true rfl)) d_icVectorCache_30 ⟨(by rw [hR]; exact Nat.le_of_ble_eq_true rfl), (by rw [hR]; exact Nat.le_of_ble_eq_true rfl)⟩) hP hlt hD hS hz (by omega) (fun H locs hP hD hS hz => ?_)
  have hP : va_P D kCl ([(b + 244, .inr (8, [.ref (b + 245), .int 0, .int 0, .int 0, .int 0])), (b + 245, .inl (cA 6, 6, .inr (.inr (.inr (.inr (va_up (va_up (va_up (fun _ => none) 0 (some (b + 246))) 1 (some (b + 247))) 2 (some (b + 248))))))))] ++ wI cA b ad (List.range' 246 4)) H := P_cat (a := 246) (m := 3) (a' := 249) (sz := 1) hP (by omega)
  have hD : va_D (Ab (b + 244)) ([(b + 244, .inr (8, [.ref (b + 245), .int 0, .int 0, .int 0, .int 0])), (b + 245, .inl (cA 6, 6, .inr (.inr (.inr (.inr (va_up (va_up (va_up (fun _ => none) 0 (some (b + 246))) 1 (some (b + 247))) 2 (some (b + 248))))))))] ++ wI cA b ad (List.range' 246 4)) := D_cat (a := 246) (m := 3) (a' := 249) (sz := 1) hD (by omega)
  refine va_astq (a := b + 245) (v := b + 249) hx hb hC.1 hP hD hS 1 6 5 7 (r := (rR7, rT7, 8)) rfl rfl (wat rfl (oz_22 rfl)) rfl (inbd_in (i := 3) (n := 6) (by decide)) d_icVectorCache_33 (fun H locs hP hD hS => ?_)
  have hP : va_P D kCl ([(b + 244, .inr (8, [.ref (b + 245), .int 0, .int 0, .int 0, .int 0])), (b + 245, .inl (cA 6, 6, .inr (.inr (.inr (.inr (va_up (va_up (va_up (va_up (fun _ => none) 0 (some (b + 246))) 1 (some (b + 247))) 2 (some (b + 248))) 3 (some (b + 249))))))))] ++ wI cA b ad (List.range' 246 4)) H := hP
  have hD : va_D (Ab (b + 244)) ([(b + 244, .inr (8, [.ref (b + 245), .int 0, .int 0, .int 0, .int 0])), (b + 245, .inl (cA 6, 6, .inr (.inr (.inr (.inr (va_up (va_up (va_up (va_up (fun _ => none) 0 (some (b + 246))) 1 (some (b + 247))) 2 (some (b + 248))) 3 (some (b + 249))))))))] ++ wI cA b ad (List.range' 246 4)) := hD
  refine kr_size (b := b) (n := 250) (by omega) (show b + 250 ≤ H.size from P_lt (a := 246) (m := 4) (by decide) hP) (fun hz => ?_)
  refine lv_iinc (v := 4) (lv' := [(1, .int 4), (0, .ref (b + 244))]) hx hb d_icVectorCache_34 hl (k := 0) rfl (by decide) (by decide) rfl (fun ls hl => ?_)
  refine lv_goto hx hb d_icVectorCache_37 (tgt := 15) (by decide) ?_
  refine lv_iload_n hx hb d_icVectorCache_15 rfl (lv_at hl 0 rfl) ?_
  refine lv_bipush (v := 6) hx hb d_icVectorCache_16 (by decide) ?_
  refine lv_icmp_ge hx hb d_icVectorCache_18 (tgt := 40) (by decide) (fun hc => ?_) (fun hc => ?_)
  · exact absurd hc (by decide)
  refine lv_aload_n hx hb d_icVectorCache_21 rfl (lv_at hl 1 rfl) ?_
  refine va_get (ci := 8) (C := rR8) (T := rT8) (N := 5) hx hb hts in_c20 hown hC.1 hP 0 rfl rfl 0 (by decide) (hts _ t_293) (fun _ h9 => h9) rfl d_icVectorCache_22 ?_
  refine lv_iload_n hx hb d_icVectorCache_25 rfl (lv_at hl 0 rfl) ?_
  refine kr_new (n := 250) (C := rR7) (T := rT7) (N := 8) (ci := 7) (fs := [.int 0, .int 0, .int 0, .int 0, .int 0, .int 0, .int 0, .int 0]) hx hb hts in_c22 ry7 ft_c22 hown t_256 t_258 t_11 hC hP hS hz rfl (by decide +kernel) (by rw [hR]; exact Nat.le_of_ble_eq_true rfl) (by rw [hR]; exact Nat.le_of_ble_eq_true rfl) d_icVectorCache_26 (fun H hP hlt hB hS hz => ?_)
  refine lv_dup hx hb d_icVectorCache_29 rfl ?_
  refine kr_call (n := 250) (va_runIN (As := []) (rest := [.ref (b + 250), .int 4, .ref (b + 245)]) (n := 0) ⟨hx, hb, hml, hown, hts⟩ (M_icEntry (by rfl)) ⟨va_cnB 0 hts (good_TW t_261) rfl rfl rfl (hC.2.1 _ t_259) (hts _ t_11) (by decide +kernel) ⟨by rw [hRf]; decide, by rw [hRl]; decide⟩, rfl, hts _ t_260⟩ ⟨Kp_blind, Kp_pre hC hA hz hB hS⟩ rfl rfl hl.1 rfl (lv_room (Nat.le_of_ble_eq_true rfl)) d_icVectorCache_30 ⟨(by rw [hR]; exact Nat.le_of_ble_eq_true rfl), (by rw [hR]; exact Nat.le_of_ble_eq_true rfl)⟩) hP hlt hD hS hz (by omega) (fun H locs hP hD hS hz => ?_)
  have hP : va_P D kCl ([(b + 244, .inr (8, [.ref (b + 245), .int 0, .int 0, .int 0, .int 0])), (b + 245, .inl (cA 6, 6, .inr (.inr (.inr (.inr (va_up (va_up (va_up (va_up (fun _ => none) 0 (some (b + 246))) 1 (some (b + 247))) 2 (some (b + 248))) 3 (some (b + 249))))))))] ++ wI cA b ad (List.range' 246 5)) H := P_cat (a := 246) (m := 4) (a' := 250) (sz := 1) hP (by omega)
  have hD : va_D (Ab (b + 244)) ([(b + 244, .inr (8, [.ref (b + 245), .int 0, .int 0, .int 0, .int 0])), (b + 245, .inl (cA 6, 6, .inr (.inr (.inr (.inr (va_up (va_up (va_up (va_up (fun _ => none) 0 (some (b + 246))) 1 (some (b + 247))) 2 (some (b + 248))) 3 (some (b + 249))))))))] ++ wI cA b ad (List.range' 246 5)) := D_cat (a := 246) (m := 4) (a' := 250) (sz := 1) hD (by omega)
  refine va_astq (a := b + 245) (v := b + 250) hx hb hC.1 hP hD hS 1 6 6 7 (r := (rR7, rT7, 8)) rfl rfl (wat rfl (oz_22 rfl)) rfl (inbd_in (i := 4) (n := 6) (by decide)) d_icVectorCache_33 (fun H locs hP hD hS => ?_)
  have hP : va_P D kCl ([(b + 244, .inr (8, [.ref (b + 245), .int 0, .int 0, .int 0, .int 0])), (b + 245, .inl (cA 6, 6, .inr (.inr (.inr (.inr (va_up (va_up (va_up (va_up (va_up (fun _ => none) 0 (some (b + 246))) 1 (some (b + 247))) 2 (some (b + 248))) 3 (some (b + 249))) 4 (some (b + 250))))))))] ++ wI cA b ad (List.range' 246 5)) H := hP
  have hD : va_D (Ab (b + 244)) ([(b + 244, .inr (8, [.ref (b + 245), .int 0, .int 0, .int 0, .int 0])), (b + 245, .inl (cA 6, 6, .inr (.inr (.inr (.inr (va_up (va_up (va_up (va_up (va_up (fun _ => none) 0 (some (b + 246))) 1 (some (b + 247))) 2 (some (b + 248))) 3 (some (b + 249))) 4 (some (b + 250))))))))] ++ wI cA b ad (List.range' 246 5)) := hD
  refine kr_size (b := b) (n := 251) (by omega) (show b + 251 ≤ H.size from P_lt (a := 246) (m := 5) (by decide) hP) (fun hz => ?_)
  refine lv_iinc (v := 5) (lv' := [(1, .int 5), (0, .ref (b + 244))]) hx hb d_icVectorCache_34 hl (k := 0) rfl (by decide) (by decide) rfl (fun ls hl => ?_)
  refine lv_goto hx hb d_icVectorCache_37 (tgt := 15) (by decide) ?_
  refine lv_iload_n hx hb d_icVectorCache_15 rfl (lv_at hl 0 rfl) ?_
  refine lv_bipush (v := 6) hx hb d_icVectorCache_16 (by decide) ?_
  refine lv_icmp_ge hx hb d_icVectorCache_18 (tgt := 40) (by decide) (fun hc => ?_) (fun hc => ?_)
  · exact absurd hc (by decide)
  refine lv_aload_n hx hb d_icVectorCache_21 rfl (lv_at hl 1 rfl) ?_
  refine va_get (ci := 8) (C := rR8) (T := rT8) (N := 5) hx hb hts in_c20 hown hC.1 hP 0 rfl rfl 0 (by decide) (hts _ t_293) (fun _ h9 => h9) rfl d_icVectorCache_22 ?_
  refine lv_iload_n hx hb d_icVectorCache_25 rfl (lv_at hl 0 rfl) ?_
  refine kr_new (n := 251) (C := rR7) (T := rT7) (N := 8) (ci := 7) (fs := [.int 0, .int 0, .int 0, .int 0, .int 0, .int 0, .int 0, .int 0]) hx hb hts in_c22 ry7 ft_c22 hown t_256 t_258 t_11 hC hP hS hz rfl (by decide +kernel) (by rw [hR]; exact Nat.le_of_ble_eq_true rfl) (by rw [hR]; exact Nat.le_of_ble_eq_true rfl) d_icVectorCache_26 (fun H hP hlt hB hS hz => ?_)
  refine lv_dup hx hb d_icVectorCache_29 rfl ?_
  refine kr_call (n := 251) (va_runIN (As := []) (rest := [.ref (b + 251), .int 5, .ref (b + 245)]) (n := 0) ⟨hx, hb, hml, hown, hts⟩ (M_icEntry (by rfl)) ⟨va_cnB 0 hts (good_TW t_261) rfl rfl rfl (hC.2.1 _ t_259) (hts _ t_11) (by decide +kernel) ⟨by rw [hRf]; decide, by rw [hRl]; decide⟩, rfl, hts _ t_260⟩ ⟨Kp_blind, Kp_pre hC hA hz hB hS⟩ rfl rfl hl.1 rfl (lv_room (Nat.le_of_ble_eq_true rfl)) d_icVectorCache_30 ⟨(by rw [hR]; exact Nat.le_of_ble_eq_true rfl), (by rw [hR]; exact Nat.le_of_ble_eq_true rfl)⟩) hP hlt hD hS hz (by omega) (fun H locs hP hD hS hz => ?_)
  have hP : va_P D kCl ([(b + 244, .inr (8, [.ref (b + 245), .int 0, .int 0, .int 0, .int 0])), (b + 245, .inl (cA 6, 6, .inr (.inr (.inr (.inr (va_up (va_up (va_up (va_up (va_up (fun _ => none) 0 (some (b + 246))) 1 (some (b + 247))) 2 (some (b + 248))) 3 (some (b + 249))) 4 (some (b + 250))))))))] ++ wI cA b ad (List.range' 246 6)) H := P_cat (a := 246) (m := 5) (a' := 251) (sz := 1) hP (by omega)
  have hD : va_D (Ab (b + 244)) ([(b + 244, .inr (8, [.ref (b + 245), .int 0, .int 0, .int 0, .int 0])), (b + 245, .inl (cA 6, 6, .inr (.inr (.inr (.inr (va_up (va_up (va_up (va_up (va_up (fun _ => none) 0 (some (b + 246))) 1 (some (b + 247))) 2 (some (b + 248))) 3 (some (b + 249))) 4 (some (b + 250))))))))] ++ wI cA b ad (List.range' 246 6)) := D_cat (a := 246) (m := 5) (a' := 251) (sz := 1) hD (by omega)
  refine va_astq (a := b + 245) (v := b + 251) hx hb hC.1 hP hD hS 1 6 7 7 (r := (rR7, rT7, 8)) rfl rfl (wat rfl (oz_22 rfl)) rfl (inbd_in (i := 5) (n := 6) (by decide)) d_icVectorCache_33 (fun H locs hP hD hS => ?_)
  have hP : va_P D kCl ([(b + 244, .inr (8, [.ref (b + 245), .int 0, .int 0, .int 0, .int 0])), (b + 245, .inl (cA 6, 6, .inr (.inr (.inr (.inr (va_up (va_up (va_up (va_up (va_up (va_up (fun _ => none) 0 (some (b + 246))) 1 (some (b + 247))) 2 (some (b + 248))) 3 (some (b + 249))) 4 (some (b + 250))) 5 (some (b + 251))))))))] ++ wI cA b ad (List.range' 246 6)) H := hP
  have hD : va_D (Ab (b + 244)) ([(b + 244, .inr (8, [.ref (b + 245), .int 0, .int 0, .int 0, .int 0])), (b + 245, .inl (cA 6, 6, .inr (.inr (.inr (.inr (va_up (va_up (va_up (va_up (va_up (va_up (fun _ => none) 0 (some (b + 246))) 1 (some (b + 247))) 2 (some (b + 248))) 3 (some (b + 249))) 4 (some (b + 250))) 5 (some (b + 251))))))))] ++ wI cA b ad (List.range' 246 6)) := hD
  refine kr_size (b := b) (n := 252) (by omega) (show b + 252 ≤ H.size from P_lt (a := 246) (m := 6) (by decide) hP) (fun hz => ?_)
  refine lv_iinc (v := 6) (lv' := [(1, .int 6), (0, .ref (b + 244))]) hx hb d_icVectorCache_34 hl (k := 0) rfl (by decide) (by decide) rfl (fun ls hl => ?_)
  refine lv_goto hx hb d_icVectorCache_37 (tgt := 15) (by decide) ?_
  refine lv_iload_n hx hb d_icVectorCache_15 rfl (lv_at hl 0 rfl) ?_
  refine lv_bipush (v := 6) hx hb d_icVectorCache_16 (by decide) ?_
  refine lv_icmp_ge hx hb d_icVectorCache_18 (tgt := 40) (by decide) (fun hc => ?_) (fun hc => ?_)
  rotate_left
  · exact absurd (by decide) hc
  have e0 : (b + 244, cS cA b ad Z0 244) = (b + 244, .inr (8, [.ref (b + 245), .int 0, .int 0, .int 0, .int 0])) := congrArg (Prod.mk (b + 244)) (rfl)
  have hP := P_swap (q := 1) (E' := cS cA b ad Z0 245) hP rfl (P_arr (az_21 rfl) (fun j hj => match j, hj with | 0, _ => (show some (b + 246) = _ from congrArg some (by omega)) | 1, _ => (show some (b + 247) = _ from congrArg some (by omega)) | 2, _ => (show some (b + 248) = _ from congrArg some (by omega)) | 3, _ => (show some (b + 249) = _ from congrArg some (by omega)) | 4, _ => (show some (b + 250) = _ from congrArg some (by omega)) | 5, _ => (show some (b + 251) = _ from congrArg some (by omega)) | (z + 6), h => absurd h (by omega)))
  have hP : va_P D kCl ([(b + 244, .inr (8, [.ref (b + 245), .int 0, .int 0, .int 0, .int 0])), (b + 245, cS cA b ad Z0 245)] ++ wI cA b ad (List.range' 246 6)) H := hP
  rw [← e0] at hP
  have hP : va_P D kCl (wI cA b ad (List.range' 244 2) ++ wI cA b ad (List.range' 246 6)) H := hP
  have hP : va_P D kCl (wI cA b ad (List.range' 244 8)) H := P_all hP (by omega)
  exact kr_ret hQ hx hb hr hP hS (by omega) (by decide) (by decide) hlk d_icVectorCache_40
