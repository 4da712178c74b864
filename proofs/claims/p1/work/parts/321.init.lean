abbrev y_icNoteLog : MethodName := ({ cls := "TypeGuard$NoteLog", name := "<init>", desc := "()V" } : Jvm.MethodName)
theorem d_icNoteLog_0 : decode prog_5_method_1_code 0 = .ok (.aload_n 0, 1) := by decide +kernel
theorem d_icNoteLog_1 : decode prog_5_method_1_code 1 = .ok (.invokespecial 3, 3) := by decide +kernel
theorem d_icNoteLog_4 : decode prog_5_method_1_code 4 = .ok (.aload_n 0, 1) := by decide +kernel
theorem d_icNoteLog_5 : decode prog_5_method_1_code 5 = .ok (.bipush 8, 2) := by decide +kernel
theorem d_icNoteLog_7 : decode prog_5_method_1_code 7 = .ok (.iconst 5, 1) := by decide +kernel
theorem d_icNoteLog_8 : decode prog_5_method_1_code 8 = .ok (.multianewarray 9 2, 4) := by decide +kernel
theorem d_icNoteLog_12 : decode prog_5_method_1_code 12 = .ok (.putfield 11, 3) := by decide +kernel
theorem d_icNoteLog_15 : decode prog_5_method_1_code 15 = .ok (.return_, 1) := by decide +kernel
set_option maxHeartbeats 8000000 in
set_option maxRecDepth 100000 in
theorem M_icNoteLog {l : Launch} {D : va_G} {cA : Nat → ClassId} {b : Nat} {ad : Nat → Nat} : Met l y_icNoteLog (Cond.code y_icNoteLog prog_5_method_1_code 1 none :: TW) { frames := 1, cells := 9, slots := 48, locals := 20 } (va_Pc [.ref (b + 252)] (Kp D cA b ad 252 (.inr (9, [.null, .int 0])))) (Kq D cA b ad 252 10) 9 48 (Ab (b + 252)) := by
  refine Ct_ofK (by decide) rfl (Nat.le_of_ble_eq_true rfl) ?_
  intro p e R s m args below meth c ls Q H hR hQ hx hb hts hown hml hr hlk hnm hC hA hs0 hP hD hS hz hl
  have hRf : R.frames = 1 := by rw [hR]
  have hRl : R.locals = 20 := by rw [hR]
  have hown : s.vm.findClass "TypeGuard$NoteLog" = some m.cls := hown
  have hl : lv_has ls 1 [(0, .ref (b + 252))] := hl
  refine lv_aload_n hx hb d_icNoteLog_0 rfl (lv_at hl 0 rfl) ?_
  refine W.objInit hx hb hown (hts _ t_317) (hts _ t_33) (hts _ t_34) rfl (hl.1.trans hml.symm) rfl d_icNoteLog_1 (by rw [hRf]; decide) (by rw [hRl]; exact Nat.le_of_ble_eq_true rfl) ?_
  show W p l e R s m args below meth c H [] 0 0 Q (F0 m 4 ls [])
  refine lv_aload_n hx hb d_icNoteLog_4 rfl (lv_at hl 0 rfl) ?_
  refine lv_bipush (v := 8) hx hb d_icNoteLog_5 (by decide) ?_
  refine lv_iconst (v := 5) hx hb d_icNoteLog_7 (by decide) ?_
  refine kr_multi (n := 253) hx hb hts hown t_318 hC hA hP hD hS (by omega) hz rfl (by decide) (by rw [hR]; exact Nat.le_of_ble_eq_true rfl) (by rw [hR]; exact Nat.le_of_ble_eq_true rfl) d_icNoteLog_8 (fun H locs hP hD hS hz => ?_)
  have hP : va_P D kCl ([(b + 252, .inr (9, [.null, .int 0]))] ++ wI cA b ad (List.range' 253 9)) H := hP
  have hD : va_D (Ab (b + 252)) ([(b + 252, .inr (9, [.null, .int 0]))] ++ wI cA b ad (List.range' 253 9)) := hD
  refine va_putF (ci := 9) (C := rR9) (T := rT9) (N := 2) (ty := .array (.array (.int))) hx hb hts in_c23 ry9 ft_c23 fn_c23 hown hC.1 hP hD hS 0 rfl rfl 0 (by decide) (hts _ t_320) (fun _ h9 => h9) rfl hnm rfl (by decide +kernel) rfl rfl (Nat.le_of_ble_eq_true rfl) d_icNoteLog_12 (fun H locs hP hD hS => ?_)
  have hP : va_P D kCl ([(b + 252, .inr (9, [.ref (b + 253), .int 0]))] ++ wI cA b ad (List.range' 253 9)) H := hP
  have hD : va_D (Ab (b + 252)) ([(b + 252, .inr (9, [.ref (b + 253), .int 0]))] ++ wI cA b ad (List.range' 253 9)) := hD
  refine kr_size (b := b) (n := 262) (by omega) (show b + 262 ≤ H.size from P_lt (a := 253) (m := 9) (by decide) hP) (fun hz => ?_)
  have e0 : (b + 252, cS cA b ad Z0 252) = (b + 252, .inr (9, [.ref (b + 253), .int 0])) := congrArg (Prod.mk (b + 252)) (rfl)
  rw [← e0] at hP
  have hP : va_P D kCl (wI cA b ad (List.range' 252 1) ++ wI cA b ad (List.range' 253 9)) H := hP
  have hP : va_P D kCl (wI cA b ad (List.range' 252 10)) H := P_all hP (by omega)
  exact kr_ret hQ hx hb hr hP hS (by omega) (by decide) (by decide) hlk d_icNoteLog_15
