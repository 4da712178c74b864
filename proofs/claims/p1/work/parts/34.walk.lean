theorem t_27 : (Jvm.Cond.classLink "TypeGuardLaw" (8 : Nat) "TypeGuard") ∈ TW := List.mem_filter.mpr ⟨List.mem_append_right _ (List.mem_append_left _ (List.mem_of_getElem? (i := 27) rfl)), rfl⟩
theorem t_28 : (Jvm.Cond.instantiable "TypeGuard" (10 : Nat)) ∈ TW := List.mem_filter.mpr ⟨List.mem_append_right _ (List.mem_append_left _ (List.mem_of_getElem? (i := 28) rfl)), rfl⟩
theorem t_29 : (Jvm.Cond.methodLink "TypeGuardLaw" (50 : Nat) ({ cls := "TypeGuard", name := "<init>", desc := "()V" } : Jvm.MethodName)) ∈ TW := List.mem_filter.mpr ⟨List.mem_append_right _ (List.mem_append_left _ (List.mem_of_getElem? (i := 29) rfl)), rfl⟩
theorem t_30 : (Jvm.Cond.instanceMethod ({ cls := "TypeGuard", name := "<init>", desc := "()V" } : Jvm.MethodName)) ∈ TW := List.mem_filter.mpr ⟨List.mem_append_right _ (List.mem_append_left _ (List.mem_of_getElem? (i := 30) rfl)), rfl⟩
theorem t_31 : (Jvm.Cond.code ({ cls := "TypeGuard", name := "<init>", desc := "()V" } : Jvm.MethodName) prog_1_method_1_code (1 : Nat) (Option.none : Option Jvm.ClassFile.FieldType)) ∈ TW := List.mem_filter.mpr ⟨List.mem_append_right _ (List.mem_append_left _ (List.mem_of_getElem? (i := 31) rfl)), rfl⟩
theorem t_981 : (Jvm.Cond.classLink "TypeGuardLaw" (51 : Nat) "TypeGuardModel") ∈ TW := List.mem_filter.mpr ⟨List.mem_append_right _ (List.mem_append_right _ (List.mem_append_right _ (List.mem_append_right _ (List.mem_append_right _ (List.mem_append_left _ (List.mem_of_getElem? (i := 21) rfl)))))), rfl⟩
theorem t_982 : (Jvm.Cond.instantiable "TypeGuardModel" (48 : Nat)) ∈ TW := List.mem_filter.mpr ⟨List.mem_append_right _ (List.mem_append_right _ (List.mem_append_right _ (List.mem_append_right _ (List.mem_append_right _ (List.mem_append_left _ (List.mem_of_getElem? (i := 22) rfl)))))), rfl⟩
theorem t_983 : (Jvm.Cond.methodLink "TypeGuardLaw" (53 : Nat) ({ cls := "TypeGuardModel", name := "<init>", desc := "()V" } : Jvm.MethodName)) ∈ TW := List.mem_filter.mpr ⟨List.mem_append_right _ (List.mem_append_right _ (List.mem_append_right _ (List.mem_append_right _ (List.mem_append_right _ (List.mem_append_left _ (List.mem_of_getElem? (i := 23) rfl)))))), rfl⟩
theorem t_984 : (Jvm.Cond.instanceMethod ({ cls := "TypeGuardModel", name := "<init>", desc := "()V" } : Jvm.MethodName)) ∈ TW := List.mem_filter.mpr ⟨List.mem_append_right _ (List.mem_append_right _ (List.mem_append_right _ (List.mem_append_right _ (List.mem_append_right _ (List.mem_append_left _ (List.mem_of_getElem? (i := 24) rfl)))))), rfl⟩
theorem t_985 : (Jvm.Cond.code ({ cls := "TypeGuardModel", name := "<init>", desc := "()V" } : Jvm.MethodName) prog_14_method_1_code (1 : Nat) (Option.none : Option Jvm.ClassFile.FieldType)) ∈ TW := List.mem_filter.mpr ⟨List.mem_append_right _ (List.mem_append_right _ (List.mem_append_right _ (List.mem_append_right _ (List.mem_append_right _ (List.mem_append_left _ (List.mem_of_getElem? (i := 25) rfl)))))), rfl⟩
section WST
variable {p : Program} {l : Launch} {e : Env} {s : State} {m : MethodId} {below : List Frame} {meth : Method} {c : Code} {D : va_G} {cA : Nat → ClassId} {b : Nat} {ad : Nat → Nat} {sb L : Nat} {xs : Nat → Int32} {ls : Array Slot}
set_option maxHeartbeats 8000000 in
set_option maxRecDepth 100000 in
theorem st_walk (hT : ∀ e, l.admits e → e.platform.stackTraces = false) (hx : p.tables.exec = Jvm.exec) (hb : c.code = code) (hr : meth.sig.returnType = ret) (hlk : meth.locks = false) (hts : ∀ w ∈ TW, w.before #[Value.ref sb] s = true) (hown : s.vm.findClass "TypeGuardLaw" = some m.cls) (hml : c.maxLocals = 7) (hbs : s.heap.size = b) (hC : Cx D cA b ad s) (hA : Ca s) (hY : Cy b s) (hSc : va_X sb L xs s s.heap) (hsb : sb < s.heap.size) (hL : L ≤ 2560) (hG : Good (L / 5) Z0) (hl : lv_has ls 7 [(0, .ref sb)]) : W p l e room_1 s m #[Value.ref sb] below meth c s.heap [] 0 0 (lw_Z below #[Value.ref sb] s) (F0 m 0 ls []) := by
  have hsA : ¬ Ab b sb := fun h => by have h2 : b ≤ sb := h; omega
  have hP : va_P D kCl [] s.heap := fun i q h => by cases h
  have hD : va_D (Ab (b + 0)) [] := ⟨fun i j x y h => (by cases h), fun i q h => (by cases h)⟩
  have hS : va_S (Ab (b + 0)) s.heap s.heap [] := va_S.rf
  have hz : s.heap.size = b + 0 := hbs
  refine kr_new (k := 0) (n := 0) (C := rR0) (T := rT0) (N := 10) (ci := 0) (fs := [.null, .int 0, .null, .null, .int 0, .null, .null, .null, .null, .null]) hx hb hts in_c0 ry0 ft_c0 hown t_27 t_28 t_1 hC hP hS hz rfl (by decide +kernel) (Nat.le_of_ble_eq_true rfl) (Nat.le_of_ble_eq_true rfl) d_w_law_0 (fun H hP hlt hB hS hz => ?_)
  refine lv_dup hx hb d_w_law_3 rfl ?_
  refine kr_call (k := 0) (n := 0) (va_runI (As := []) (rest := [.ref (b + 0)]) (n := 0) ⟨hx, hb, hml, hown, hts⟩ (M_icG) ⟨callB_of 0 hts (good_TW t_31) rfl rfl rfl (hts _ t_1) (hts _ t_29) (by decide +kernel) ⟨by decide, by decide⟩, rfl, hts _ t_30⟩ ⟨Kp_blind, Kp_pre hC hA hz hB hS⟩ rfl rfl hl.1 rfl (lv_room (Nat.le_of_ble_eq_true rfl)) d_w_law_4 ⟨(Nat.le_of_ble_eq_true rfl), (Nat.le_of_ble_eq_true rfl)⟩) hP hlt hD hS hz (by omega) (fun H locs hP hD hS hz => ?_)
  refine lv_astore_n (lv' := [(1, .ref (b + 0)), (0, .ref sb)]) hx hb d_w_law_7 rfl hl (by decide) rfl (fun ls hl => ?_)
  have hP : va_P D kCl (wI cA b ad (List.range' 0 262)) H := hP
  have hD : va_D (Ab (b + 0)) (wI cA b ad (List.range' 0 262)) := hD
  have hz : H.size = b + 262 := hz
  refine kr_new (k := 0) (n := 262) (C := rR10) (T := rT10) (N := 48) (ci := 10) (fs := [.int 0, .null, .int 0, .int 0, .int 0, .int 0, .int 0, .int 0, .int 0, .int 0, .int 0, .long 0, .int 0, .null, .null, .null, .null, .null, .null, .null, .null, .null, .null, .null, .null, .null, .null, .null, .null, .null, .null, .null, .null, .null, .int 0, .null, .null, .null, .null, .null, .null, .null, .int 0, .int 0, .int 0, .int 0, .int 0, .null]) hx hb hts in_m0 ry10 ft_m0 hown t_981 t_982 t_13 hC hP hS hz rfl (by decide +kernel) (Nat.le_of_ble_eq_true rfl) (Nat.le_of_ble_eq_true rfl) d_w_law_8 (fun H hP hlt hB hS hz => ?_)
  refine lv_dup hx hb d_w_law_11 rfl ?_
  refine kr_call (k := 0) (n := 262) (va_runI (As := []) (rest := [.ref (b + 262)]) (n := 0) ⟨hx, hb, hml, hown, hts⟩ (M_im) ⟨callB_of 0 hts (good_TW t_985) rfl rfl rfl (hts _ t_13) (hts _ t_983) (by decide +kernel) ⟨by decide, by decide⟩, rfl, hts _ t_984⟩ ⟨Kp_blind, Kp_pre hC hA hz hB hS⟩ rfl rfl hl.1 rfl (lv_room (Nat.le_of_ble_eq_true rfl)) d_w_law_12 ⟨(Nat.le_of_ble_eq_true rfl), (Nat.le_of_ble_eq_true rfl)⟩) hP hlt hD hS hz (by omega) (fun H locs hP hD hS hz => ?_)
  refine lv_astore_n (lv' := [(2, .ref (b + 262)), (1, .ref (b + 0)), (0, .ref sb)]) hx hb d_w_law_15 rfl hl (by decide) rfl (fun ls hl => ?_)
  have hP : va_P D kCl (wI cA b ad (List.range' 0 293)) H := P_all hP rfl
  have hD : va_D (Ab (b + 0)) (wI cA b ad (List.range' 0 293)) := by
    have h1 := D_cat (X := []) (a := 0) (m := 262) (a' := 262) (sz := 31) (by rw [List.nil_append]; exact hD) rfl
    rw [List.nil_append] at h1
    exact h1
  have hz : H.size = b + 293 := hz
  refine lv_iconst (v := 1) hx hb d_w_law_16 (by decide) ?_
  refine kr_arr (ad := ad) (atype := .long) (k := 0) (n := 293) (t := 1) (N := 1) hx hb hts t_65 rfl hP hD hS (by omega) hz (rfl) (hC.1.2 1 _ rfl).2 (fun _ => rfl) (by decide) (by decide) (by decide) (Nat.le_of_ble_eq_true rfl) (Nat.le_of_ble_eq_true rfl) d_w_law_17 (fun H hP hD hS hz => ?_)
  refine lv_astore_n (lv' := [(3, .ref (b + 293)), (2, .ref (b + 262)), (1, .ref (b + 0)), (0, .ref sb)]) hx hb d_w_law_19 rfl hl (by decide) rfl (fun ls hl => ?_)
  refine lv_iconst (v := 0) hx hb d_w_law_20 (by decide) ?_
  refine lv_istore (lv' := [(4, .int 0), (3, .ref (b + 293)), (2, .ref (b + 262)), (1, .ref (b + 0)), (0, .ref sb)]) hx hb d_w_law_21 hl (by decide) rfl (fun ls hl => ?_)
  have hP : va_P D kCl (wI cA b ad (List.range' 0 294)) H := P_all (a := 0) (m := 293) (a' := 293) (sz := 1) hP rfl
  have hX : hp D cA b ad Z0 H := by
    unfold hp wO
    rw [List.range_eq_range']
    exact hP
  have hl : lv_has ls 7 [(0, .ref sb), (1, .ref (b + 0)), (2, .ref (b + 262)), (3, .ref (b + 293)), (4, .int (nI (5 * 0)))] := lv_sub hl [4, 3, 2, 1, 0] rfl
  exact lw_loop hT hx hb hr hlk hts hown hml hC hY hSc hsb hsA (by omega) hL (L / 5) 0 Z0 H locs ls _ _ (by omega) hG (by omega) (by omega) hX hS hl
end WST
