abbrev y_cTokens_name : MethodName := ({ cls := "TypeGuard$Tokens", name := "name", desc := "()J" } : Jvm.MethodName)
theorem d_cTokens_name_0 : decode prog_9_method_4_code 0 = .ok (.aload_n 0, 1) := by decide +kernel
theorem d_cTokens_name_1 : decode prog_9_method_4_code 1 = .ok (.getfield 19, 3) := by decide +kernel
theorem d_cTokens_name_4 : decode prog_9_method_4_code 4 = .ok (.aload_n 0, 1) := by decide +kernel
theorem d_cTokens_name_5 : decode prog_9_method_4_code 5 = .ok (.getfield 27, 3) := by decide +kernel
theorem d_cTokens_name_8 : decode prog_9_method_4_code 8 = .ok (.laload, 1) := by decide +kernel
theorem d_cTokens_name_9 : decode prog_9_method_4_code 9 = .ok (.lreturn, 1) := by decide +kernel
def cTokens_name (S : CS) : Option Int64 := (if inbd (gI S 3 4) 481 = true then some (gL S 6 (txN (gI S 3 4))) else none)
set_option maxHeartbeats 4000000 in
set_option maxRecDepth 100000 in
theorem M_cTokens_name {l : Launch} {D : va_G} {cA : Nat → ClassId} {b : Nat} {ad : Nat → Nat}  {S : CS} {T : MS × (Nat → Int64)} {rr : Int64}  (h : cTokens_name  S = some rr) : Met l y_cTokens_name (Cond.code y_cTokens_name prog_9_method_4_code 1 (Option.some Jvm.ClassFile.FieldType.long) :: TW) { frames := 0, cells := 0, slots := 0, locals := 0 } (va_Pc [.ref (b + 3)] (Rp D cA b ad (S, T))) (Qr D cA b ad (S, T) (some (.long rr))) 0 0 (Ab b) := by
  refine Ct_of (by decide) (Nat.le_of_ble_eq_true rfl) ?_
  intro p e R s m args below meth c ls Q H locs hR hQ hx hb hts hown hml hr hlk hC hX hS hl
  have hRf : R.frames = 0 := by rw [hR]
  have hRl : R.locals = 0 := by rw [hR]
  have hown : s.vm.findClass "TypeGuard$Tokens" = some m.cls := hown
  have hl : lv_has ls 1 [(0, .ref (b + 3))] := hl
  rw [cTokens_name] at h
  refine lv_aload_n hx hb d_cTokens_name_0 rfl (lv_at hl 0 rfl) ?_
  refine c_get_3_2 hx hb hts hown hC hX (by rfl) (hts _ t_49) d_cTokens_name_1 ?_
  refine lv_aload_n hx hb d_cTokens_name_4 rfl (lv_at hl 0 rfl) ?_
  refine c_get_3_4 hx hb hts hown hC hX (by rfl) (hts _ t_51) d_cTokens_name_5 ?_
  by_cases hg8 : inbd (gI S 3 4) 481 = true
  rotate_left; · rw [if_neg hg8] at h; cases h
  rw [if_pos hg8] at h
  refine c_ald_6 (k := 6) hx hb hC hX (by rfl) hg8 d_cTokens_name_8 ?_
  obtain rfl := Option.some.inj h
  exact rt_l hQ hx hb hr hX hS hlk d_cTokens_name_9
abbrev y_cReader_readTypeName : MethodName := ({ cls := "TypeGuard$Reader", name := "readTypeName", desc := "(LTypeGuard$TypeSet;Z)Z" } : Jvm.MethodName)
theorem d_cReader_readTypeName_0 : decode prog_7_method_17_code 0 = .ok (.aload_n 0, 1) := by decide +kernel
theorem d_cReader_readTypeName_1 : decode prog_7_method_17_code 1 = .ok (.getfield 21, 3) := by decide +kernel
theorem d_cReader_readTypeName_4 : decode prog_7_method_17_code 4 = .ok (.getfield 164, 3) := by decide +kernel
theorem d_cReader_readTypeName_7 : decode prog_7_method_17_code 7 = .ok (.aload_n 0, 1) := by decide +kernel
theorem d_cReader_readTypeName_8 : decode prog_7_method_17_code 8 = .ok (.getfield 12, 3) := by decide +kernel
theorem d_cReader_readTypeName_11 : decode prog_7_method_17_code 11 = .ok (.invokevirtual 136, 3) := by decide +kernel
theorem d_cReader_readTypeName_14 : decode prog_7_method_17_code 14 = .ok (.invokevirtual 160, 3) := by decide +kernel
theorem d_cReader_readTypeName_17 : decode prog_7_method_17_code 17 = .ok (.istore_n 3, 1) := by decide +kernel
theorem d_cReader_readTypeName_18 : decode prog_7_method_17_code 18 = .ok (.aload_n 0, 1) := by decide +kernel
theorem d_cReader_readTypeName_19 : decode prog_7_method_17_code 19 = .ok (.getfield 21, 3) := by decide +kernel
theorem d_cReader_readTypeName_22 : decode prog_7_method_17_code 22 = .ok (.getfield 167, 3) := by decide +kernel
theorem d_cReader_readTypeName_25 : decode prog_7_method_17_code 25 = .ok (.aload_n 0, 1) := by decide +kernel
theorem d_cReader_readTypeName_26 : decode prog_7_method_17_code 26 = .ok (.getfield 12, 3) := by decide +kernel
theorem d_cReader_readTypeName_29 : decode prog_7_method_17_code 29 = .ok (.invokevirtual 136, 3) := by decide +kernel
theorem d_cReader_readTypeName_32 : decode prog_7_method_17_code 32 = .ok (.invokevirtual 160, 3) := by decide +kernel
theorem d_cReader_readTypeName_35 : decode prog_7_method_17_code 35 = .ok (.istore 4, 2) := by decide +kernel
theorem d_cReader_readTypeName_37 : decode prog_7_method_17_code 37 = .ok (.iload_n 3, 1) := by decide +kernel
theorem d_cReader_readTypeName_38 : decode prog_7_method_17_code 38 = .ok (.iconst (-1), 1) := by decide +kernel
theorem d_cReader_readTypeName_39 : decode prog_7_method_17_code 39 = .ok (.if_icmp .ne 31, 3) := by decide +kernel
theorem d_cReader_readTypeName_42 : decode prog_7_method_17_code 42 = .ok (.iload 4, 2) := by decide +kernel
theorem d_cReader_readTypeName_44 : decode prog_7_method_17_code 44 = .ok (.iconst (-1), 1) := by decide +kernel
theorem d_cReader_readTypeName_45 : decode prog_7_method_17_code 45 = .ok (.if_icmp .ne 25, 3) := by decide +kernel
theorem d_cReader_readTypeName_48 : decode prog_7_method_17_code 48 = .ok (.aload_n 0, 1) := by decide +kernel
theorem d_cReader_readTypeName_49 : decode prog_7_method_17_code 49 = .ok (.aload_n 0, 1) := by decide +kernel
theorem d_cReader_readTypeName_50 : decode prog_7_method_17_code 50 = .ok (.getfield 12, 3) := by decide +kernel
theorem d_cReader_readTypeName_53 : decode prog_7_method_17_code 53 = .ok (.bipush 97, 2) := by decide +kernel
theorem d_cReader_readTypeName_55 : decode prog_7_method_17_code 55 = .ok (.invokevirtual 59, 3) := by decide +kernel
theorem d_cReader_readTypeName_58 : decode prog_7_method_17_code 58 = .ok (.ifCond .eq 7, 3) := by decide +kernel
theorem d_cReader_readTypeName_61 : decode prog_7_method_17_code 61 = .ok (.iconst 2, 1) := by decide +kernel
theorem d_cReader_readTypeName_62 : decode prog_7_method_17_code 62 = .ok (.goto 4, 3) := by decide +kernel
theorem d_cReader_readTypeName_65 : decode prog_7_method_17_code 65 = .ok (.iconst 1, 1) := by decide +kernel
theorem d_cReader_readTypeName_66 : decode prog_7_method_17_code 66 = .ok (.invokevirtual 125, 3) := by decide +kernel
theorem d_cReader_readTypeName_69 : decode prog_7_method_17_code 69 = .ok (.ireturn, 1) := by decide +kernel
theorem d_cReader_readTypeName_70 : decode prog_7_method_17_code 70 = .ok (.iload 4, 2) := by decide +kernel
theorem d_cReader_readTypeName_72 : decode prog_7_method_17_code 72 = .ok (.iconst (-1), 1) := by decide +kernel
theorem d_cReader_readTypeName_73 : decode prog_7_method_17_code 73 = .ok (.if_icmp .ne 15, 3) := by decide +kernel
theorem d_cReader_readTypeName_76 : decode prog_7_method_17_code 76 = .ok (.aload_n 1, 1) := by decide +kernel
theorem d_cReader_readTypeName_77 : decode prog_7_method_17_code 77 = .ok (.iconst 0, 1) := by decide +kernel
theorem d_cReader_readTypeName_78 : decode prog_7_method_17_code 78 = .ok (.iconst 1, 1) := by decide +kernel
theorem d_cReader_readTypeName_79 : decode prog_7_method_17_code 79 = .ok (.iload_n 3, 1) := by decide +kernel
theorem d_cReader_readTypeName_80 : decode prog_7_method_17_code 80 = .ok (.ishl, 1) := by decide +kernel
theorem d_cReader_readTypeName_81 : decode prog_7_method_17_code 81 = .ok (.iload_n 2, 1) := by decide +kernel
theorem d_cReader_readTypeName_82 : decode prog_7_method_17_code 82 = .ok (.invokevirtual 254, 3) := by decide +kernel
theorem d_cReader_readTypeName_85 : decode prog_7_method_17_code 85 = .ok (.goto 13, 3) := by decide +kernel
theorem d_cReader_readTypeName_88 : decode prog_7_method_17_code 88 = .ok (.aload_n 1, 1) := by decide +kernel
theorem d_cReader_readTypeName_89 : decode prog_7_method_17_code 89 = .ok (.iconst 1, 1) := by decide +kernel
theorem d_cReader_readTypeName_90 : decode prog_7_method_17_code 90 = .ok (.iload 4, 2) := by decide +kernel
theorem d_cReader_readTypeName_92 : decode prog_7_method_17_code 92 = .ok (.ishl, 1) := by decide +kernel
theorem d_cReader_readTypeName_93 : decode prog_7_method_17_code 93 = .ok (.iconst 0, 1) := by decide +kernel
theorem d_cReader_readTypeName_94 : decode prog_7_method_17_code 94 = .ok (.iload_n 2, 1) := by decide +kernel
theorem d_cReader_readTypeName_95 : decode prog_7_method_17_code 95 = .ok (.invokevirtual 254, 3) := by decide +kernel
theorem d_cReader_readTypeName_98 : decode prog_7_method_17_code 98 = .ok (.aload_n 0, 1) := by decide +kernel
theorem d_cReader_readTypeName_99 : decode prog_7_method_17_code 99 = .ok (.getfield 12, 3) := by decide +kernel
theorem d_cReader_readTypeName_102 : decode prog_7_method_17_code 102 = .ok (.invokevirtual 129, 3) := by decide +kernel
theorem d_cReader_readTypeName_105 : decode prog_7_method_17_code 105 = .ok (.iconst 1, 1) := by decide +kernel
theorem d_cReader_readTypeName_106 : decode prog_7_method_17_code 106 = .ok (.ireturn, 1) := by decide +kernel
def cReader_readTypeName_J66 (s0_66 : Int32) (S_66 : CS) : Option (CS × Bool) := ((cReader_refuse s0_66 S_66).bind fun q66 => some (q66.1, q66.2))
def cReader_readTypeName_J98 (S_98 : CS) : Option (CS × Bool) := ((cTokens_advance S_98).bind fun q102 => some (q102, true))
def cReader_readTypeName_J70 (v1_70 : Nat) (v2_70 : Bool) (v3_70 : Int32) (v4_70 : Int32) (S_70 : CS) : Option (CS × Bool) := (if v4_70 = (-1) then ((cTypeSet_mention v1_70 0 (1 <<< (v3_70 &&& 31)) v2_70 S_70).bind fun q82 => cReader_readTypeName_J98 q82) else ((cTypeSet_mention v1_70 (1 <<< (v4_70 &&& 31)) 0 v2_70 S_70).bind fun q95 => cReader_readTypeName_J98 q95))
def cReader_readTypeName (x1 : Nat) (x2 : Bool) (S : CS) : Option (CS × Bool) := (bd (gR S 2 1) fun r1 => (if kd r1 = 7 then ((cTokens_name S).bind fun q11 => ((cNames_numberOf (r1 + 3) q11 S).bind fun q14 => (bd (gR S 2 1) fun r19 => (if kd r19 = 7 then ((cTokens_name S).bind fun q29 => ((cNames_numberOf (r19 + 1) q29 S).bind fun q32 => (if q14 = (-1) then (if q32 = (-1) then ((cTokens_is 97 S).bind fun q55 => (if q55 = true then cReader_readTypeName_J66 2 S else cReader_readTypeName_J66 1 S)) else cReader_readTypeName_J70 x1 x2 q14 q32 S) else cReader_readTypeName_J70 x1 x2 q14 q32 S))) else none)))) else none))
set_option maxHeartbeats 4000000 in
set_option maxRecDepth 100000 in
theorem M_cReader_readTypeName {l : Launch} {D : va_G} {cA : Nat → ClassId} {b : Nat} {ad : Nat → Nat} {x1 : Nat} {x2 : Bool} {S : CS} {T : MS × (Nat → Int64)} {rr : (CS × Bool)} (hk1 : kd x1 = 15) (h : cReader_readTypeName x1 x2 S = some rr) : Met l y_cReader_readTypeName (Cond.code y_cReader_readTypeName prog_7_method_17_code 5 (Option.some Jvm.ClassFile.FieldType.boolean) :: TW) { frames := 1, cells := 0, slots := 0, locals := 23 } (va_Pc [.ref (b + 2), .ref (b + x1), .int (bI x2)] (Rp D cA b ad (S, T))) (Qr D cA b ad (rr.1, T) (some (.int (bI rr.2)))) 0 0 (Ab b) := by
  refine Ct_of (by decide) (Nat.le_of_ble_eq_true rfl) ?_
  intro p e R s m args below meth c ls Q H locs hR hQ hx hb hts hown hml hr hlk hC hX hS hl
  have hRf : R.frames = 1 := by rw [hR]
  have hRl : R.locals = 23 := by rw [hR]
  have hown : s.vm.findClass "TypeGuard$Reader" = some m.cls := hown
  have hl : lv_has ls 5 [(0, .ref (b + 2)), (1, .ref (b + x1)), (2, .int (bI x2))] := hl
  rw [cReader_readTypeName] at h
  refine lv_aload_n hx hb d_cReader_readTypeName_0 rfl (lv_at hl 0 rfl) ?_
  refine c_get_2_1 hx hb hts hown hC hX (by rfl) (hts _ t_228) d_cReader_readTypeName_1 ?_
  obtain ⟨r1, e1, h⟩ := bd_some h
  refine lt_R e1 ?_
  by_cases hkr1 : kd r1 = 7
  rotate_left; · rw [if_neg hkr1] at h; cases h
  rw [if_pos hkr1] at h
  refine c_get_7_1N (k := r1) hx hb hts hown hC hX hkr1 (va_Nw.use rfl (hC.2.1 _ t_189)) d_cReader_readTypeName_4 ?_
  refine lv_aload_n hx hb d_cReader_readTypeName_7 rfl (lv_at hl 0 rfl) ?_
  refine c_get_2_0 hx hb hts hown hC hX (by rfl) (hts _ t_227) d_cReader_readTypeName_8 ?_
  obtain ⟨q11, hc11, h⟩ := Option.bind_eq_some_iff.mp h
  refine ck_V (As := []) (rest := [.ref (b + (r1 + 3))]) (st1 := [.long q11, .ref (b + (r1 + 3))]) (M_cTokens_name  hc11) t_609 t_610 t_611 t_612 t_3 hx hb hts hown hC hX hS (hrc_c3 hC hX (by rfl)) hml hl.1 ⟨by rw [hRf]; decide, by rw [hRl]; decide⟩ ⟨rfl, rfl⟩ (n := 0) (by decide +kernel) rfl rfl rfl (lv_room (Nat.le_of_ble_eq_true rfl)) d_cReader_readTypeName_11 (fun H locs hX hS => ?_)
  obtain ⟨q14, hc14, h⟩ := Option.bind_eq_some_iff.mp h
  refine ck_V (As := [.long q11]) (rest := []) (st1 := [.int q14]) (M_cNames_numberOf (kx_7_3 hkr1) hc14) t_613 t_386 t_387 t_388 t_5 hx hb hts hown hC hX hS (hrc_c8 hC hX (kx_7_3 hkr1)) hml hl.1 ⟨by rw [hRf]; decide, by rw [hRl]; decide⟩ ⟨rfl, rfl⟩ (n := 1) (by decide +kernel) rfl rfl rfl (lv_room (Nat.le_of_ble_eq_true rfl)) d_cReader_readTypeName_14 (fun H locs hX hS => ?_)
  refine lv_istore_n (lv' := [(3, .int q14), (0, .ref (b + 2)), (1, .ref (b + x1)), (2, .int (bI x2))]) hx hb d_cReader_readTypeName_17 rfl hl (by decide) rfl (fun ls hl => ?_)
  refine lv_aload_n hx hb d_cReader_readTypeName_18 rfl (lv_at hl 1 rfl) ?_
  refine c_get_2_1 hx hb hts hown hC hX (by rfl) (hts _ t_228) d_cReader_readTypeName_19 ?_
  obtain ⟨r19, e19, h⟩ := bd_some h
  refine lt_R e19 ?_
  by_cases hkr19 : kd r19 = 7
  rotate_left; · rw [if_neg hkr19] at h; cases h
  rw [if_pos hkr19] at h
  refine c_get_7_0N (k := r19) hx hb hts hown hC hX hkr19 (va_Nw.use rfl (hC.2.1 _ t_187)) d_cReader_readTypeName_22 ?_
  refine lv_aload_n hx hb d_cReader_readTypeName_25 rfl (lv_at hl 1 rfl) ?_
  refine c_get_2_0 hx hb hts hown hC hX (by rfl) (hts _ t_227) d_cReader_readTypeName_26 ?_
  obtain ⟨q29, hc29, h⟩ := Option.bind_eq_some_iff.mp h
  refine ck_V (As := []) (rest := [.ref (b + (r19 + 1))]) (st1 := [.long q29, .ref (b + (r19 + 1))]) (M_cTokens_name  hc29) t_609 t_610 t_611 t_612 t_3 hx hb hts hown hC hX hS (hrc_c3 hC hX (by rfl)) hml hl.1 ⟨by rw [hRf]; decide, by rw [hRl]; decide⟩ ⟨rfl, rfl⟩ (n := 0) (by decide +kernel) rfl rfl rfl (lv_room (Nat.le_of_ble_eq_true rfl)) d_cReader_readTypeName_29 (fun H locs hX hS => ?_)
  obtain ⟨q32, hc32, h⟩ := Option.bind_eq_some_iff.mp h
  refine ck_V (As := [.long q29]) (rest := []) (st1 := [.int q32]) (M_cNames_numberOf (kx_7_1 hkr19) hc32) t_613 t_386 t_387 t_388 t_5 hx hb hts hown hC hX hS (hrc_c8 hC hX (kx_7_1 hkr19)) hml hl.1 ⟨by rw [hRf]; decide, by rw [hRl]; decide⟩ ⟨rfl, rfl⟩ (n := 1) (by decide +kernel) rfl rfl rfl (lv_room (Nat.le_of_ble_eq_true rfl)) d_cReader_readTypeName_32 (fun H locs hX hS => ?_)
  refine lv_istore (lv' := [(4, .int q32), (3, .int q14), (0, .ref (b + 2)), (1, .ref (b + x1)), (2, .int (bI x2))]) hx hb d_cReader_readTypeName_35 hl (by decide) rfl (fun ls hl => ?_)
  refine lv_iload_n hx hb d_cReader_readTypeName_37 rfl (lv_at hl 1 rfl) ?_
  refine lv_iconst (v := (-1)) hx hb d_cReader_readTypeName_38 (by decide) ?_
  have J70 : ∀  (H : Heap) (locs : List Loc) (ls : Array Slot), hp D cA b ad (S, T) H → va_S (Ab b) s.heap H locs → lv_has ls 5 [(0, .ref (b + 2)), (1, .ref (b + x1)), (2, .int (bI x2)), (3, .int q14), (4, .int q32)] → cReader_readTypeName_J70 x1 x2 q14 q32 S = some rr → W p l e R s m args below meth c H locs 0 0 Q (F0 m 70 ls []) := by
    intro  H locs ls  hX hS hl h
    rw [cReader_readTypeName_J70] at h
    refine lv_iload hx hb d_cReader_readTypeName_70 (lv_at hl 4 rfl) ?_
    refine lv_iconst (v := (-1)) hx hb d_cReader_readTypeName_72 (by decide) ?_
    have J98 : ∀ (S_98 : CS) (H : Heap) (locs : List Loc) (ls : Array Slot), hp D cA b ad (S_98, T) H → va_S (Ab b) s.heap H locs → lv_has ls 5 [(0, .ref (b + 2))] → cReader_readTypeName_J98 S_98 = some rr → W p l e R s m args below meth c H locs 0 0 Q (F0 m 98 ls []) := by
      intro S_98 H locs ls  hX hS hl h
      rw [cReader_readTypeName_J98] at h
      refine lv_aload_n hx hb d_cReader_readTypeName_98 rfl (lv_at hl 0 rfl) ?_
      refine c_get_2_0 hx hb hts hown hC hX (by rfl) (hts _ t_227) d_cReader_readTypeName_99 ?_
      obtain ⟨q102, hc102, h⟩ := Option.bind_eq_some_iff.mp h
      refine ck_V (As := []) (rest := []) (st1 := []) (M_cTokens_advance  hc102) t_591 t_592 t_593 t_594 t_3 hx hb hts hown hC hX hS (hrc_c3 hC hX (by rfl)) hml hl.1 ⟨by rw [hRf]; decide, by rw [hRl]; decide⟩ ⟨rfl, rfl⟩ (n := 0) (by decide +kernel) rfl rfl rfl (lv_room (Nat.le_of_ble_eq_true rfl)) d_cReader_readTypeName_102 (fun H locs hX hS => ?_)
      refine lv_iconst (v := 1) hx hb d_cReader_readTypeName_105 (by decide) ?_
      obtain rfl := Option.some.inj h
      exact rt_zt hQ hx hb hr hX hS hlk d_cReader_readTypeName_106
    refine lv_icmp_ne hx hb d_cReader_readTypeName_73 (tgt := 88) (by decide) (fun hc => ?_) (fun hc => ?_)
    · rw [if_neg hc] at h
      refine lv_aload_n hx hb d_cReader_readTypeName_88 rfl (lv_at hl 1 rfl) ?_
      refine lv_iconst (v := 1) hx hb d_cReader_readTypeName_89 (by decide) ?_
      refine lv_iload hx hb d_cReader_readTypeName_90 (lv_at hl 4 rfl) ?_
      refine lv_ishl hx hb d_cReader_readTypeName_92 ?_
      refine lv_iconst (v := 0) hx hb d_cReader_readTypeName_93 (by decide) ?_
      refine lv_iload_n hx hb d_cReader_readTypeName_94 rfl (lv_at hl 2 rfl) ?_
      obtain ⟨q95, hc95, h⟩ := Option.bind_eq_some_iff.mp h
      refine ck_V (As := [.int (1 <<< (q32 &&& 31)), .int 0, .int (bI x2)]) (rest := []) (st1 := []) (M_cTypeSet_mention hk1 hc95) t_614 t_615 t_616 t_617 t_9 hx hb hts hown hC hX hS (hrc_c15 hC hX hk1) hml hl.1 ⟨by rw [hRf]; decide, by rw [hRl]; decide⟩ ⟨rfl, rfl⟩ (n := 3) (by decide +kernel) rfl rfl rfl (lv_room (Nat.le_of_ble_eq_true rfl)) d_cReader_readTypeName_95 (fun H locs hX hS => ?_)
      exact J98 q95 H locs ls  hX hS (lv_sub hl [0] rfl) h
    · rw [if_pos hc] at h
      refine lv_aload_n hx hb d_cReader_readTypeName_76 rfl (lv_at hl 1 rfl) ?_
      refine lv_iconst (v := 0) hx hb d_cReader_readTypeName_77 (by decide) ?_
      refine lv_iconst (v := 1) hx hb d_cReader_readTypeName_78 (by decide) ?_
      refine lv_iload_n hx hb d_cReader_readTypeName_79 rfl (lv_at hl 3 rfl) ?_
      refine lv_ishl hx hb d_cReader_readTypeName_80 ?_
      refine lv_iload_n hx hb d_cReader_readTypeName_81 rfl (lv_at hl 2 rfl) ?_
      obtain ⟨q82, hc82, h⟩ := Option.bind_eq_some_iff.mp h
      refine ck_V (As := [.int 0, .int (1 <<< (q14 &&& 31)), .int (bI x2)]) (rest := []) (st1 := []) (M_cTypeSet_mention hk1 hc82) t_614 t_615 t_616 t_617 t_9 hx hb hts hown hC hX hS (hrc_c15 hC hX hk1) hml hl.1 ⟨by rw [hRf]; decide, by rw [hRl]; decide⟩ ⟨rfl, rfl⟩ (n := 3) (by decide +kernel) rfl rfl rfl (lv_room (Nat.le_of_ble_eq_true rfl)) d_cReader_readTypeName_82 (fun H locs hX hS => ?_)
      refine lv_goto hx hb d_cReader_readTypeName_85 (tgt := 98) (by decide) ?_
      exact J98 q82 H locs ls  hX hS (lv_sub hl [0] rfl) h
  refine lv_icmp_ne hx hb d_cReader_readTypeName_39 (tgt := 70) (by decide) (fun hc => ?_) (fun hc => ?_)
  · rw [if_neg hc] at h
    exact J70  H locs ls  hX hS (lv_sub hl [2, 3, 4, 1, 0] rfl) h
  · rw [if_pos hc] at h
    refine lv_iload hx hb d_cReader_readTypeName_42 (lv_at hl 0 rfl) ?_
    refine lv_iconst (v := (-1)) hx hb d_cReader_readTypeName_44 (by decide) ?_
    refine lv_icmp_ne hx hb d_cReader_readTypeName_45 (tgt := 70) (by decide) (fun hc => ?_) (fun hc => ?_)
    · rw [if_neg hc] at h
      exact J70  H locs ls  hX hS (lv_sub hl [2, 3, 4, 1, 0] rfl) h
    · rw [if_pos hc] at h
      refine lv_aload_n hx hb d_cReader_readTypeName_48 rfl (lv_at hl 2 rfl) ?_
      refine lv_aload_n hx hb d_cReader_readTypeName_49 rfl (lv_at hl 2 rfl) ?_
      refine c_get_2_0 hx hb hts hown hC hX (by rfl) (hts _ t_227) d_cReader_readTypeName_50 ?_
      refine lv_bipush (v := 97) hx hb d_cReader_readTypeName_53 (by decide) ?_
      obtain ⟨q55, hc55, h⟩ := Option.bind_eq_some_iff.mp h
      refine ck_V (As := [.int 97]) (rest := [.ref (b + 2)]) (st1 := [.int (bI q55), .ref (b + 2)]) (M_cTokens_is  hc55) t_547 t_548 t_549 t_550 t_3 hx hb hts hown hC hX hS (hrc_c3 hC hX (by rfl)) hml hl.1 ⟨by rw [hRf]; decide, by rw [hRl]; decide⟩ ⟨rfl, rfl⟩ (n := 1) (by decide +kernel) rfl rfl rfl (lv_room (Nat.le_of_ble_eq_true rfl)) d_cReader_readTypeName_55 (fun H locs hX hS => ?_)
      have J66 : ∀ (s0_66 : Int32) (H : Heap) (locs : List Loc) (ls : Array Slot), hp D cA b ad (S, T) H → va_S (Ab b) s.heap H locs → lv_has ls 5 [] → cReader_readTypeName_J66 s0_66 S = some rr → W p l e R s m args below meth c H locs 0 0 Q (F0 m 66 ls [.int s0_66, .ref (b + 2)]) := by
        intro s0_66 H locs ls  hX hS hl h
        rw [cReader_readTypeName_J66] at h
        obtain ⟨q66, hc66, h⟩ := Option.bind_eq_some_iff.mp h
        refine ck_V (As := [.int s0_66]) (rest := []) (st1 := [.int (bI q66.2)]) (M_cReader_refuse  hc66) t_575 t_577 p_8 t_578 t_2 hx hb hts hown hC hX hS (hrc_c2 hC hX (by rfl)) hml hl.1 ⟨by rw [hRf]; decide, by rw [hRl]; decide⟩ ⟨rfl, rfl⟩ (n := 1) (by decide +kernel) rfl rfl rfl (lv_room (Nat.le_of_ble_eq_true rfl)) d_cReader_readTypeName_66 (fun H locs hX hS => ?_)
        obtain rfl := Option.some.inj h
        exact rt_z hQ hx hb hr hX hS hlk d_cReader_readTypeName_69
      refine lz_ifeq hx hb d_cReader_readTypeName_58 (tgt := 65) (by decide) (fun hc => ?_) (fun hc => ?_)
      · rw [if_neg hc] at h
        refine lv_iconst (v := 1) hx hb d_cReader_readTypeName_65 (by decide) ?_
        exact J66 1 H locs ls  hX hS (lv_sub hl [] rfl) h
      · rw [if_pos hc] at h
        refine lv_iconst (v := 2) hx hb d_cReader_readTypeName_61 (by decide) ?_
        refine lv_goto hx hb d_cReader_readTypeName_62 (tgt := 66) (by decide) ?_
        exact J66 2 H locs ls  hX hS (lv_sub hl [] rfl) h
abbrev y_cReader_readTypes : MethodName := ({ cls := "TypeGuard$Reader", name := "readTypes", desc := "(LTypeGuard$TypeSet;)Z" } : Jvm.MethodName)
theorem d_cReader_readTypes_0 : decode prog_7_method_16_code 0 = .ok (.aload_n 1, 1) := by decide +kernel
theorem d_cReader_readTypes_1 : decode prog_7_method_16_code 1 = .ok (.aload_n 0, 1) := by decide +kernel
theorem d_cReader_readTypes_2 : decode prog_7_method_16_code 2 = .ok (.getfield 12, 3) := by decide +kernel
theorem d_cReader_readTypes_5 : decode prog_7_method_16_code 5 = .ok (.bipush 126, 2) := by decide +kernel
theorem d_cReader_readTypes_7 : decode prog_7_method_16_code 7 = .ok (.invokevirtual 170, 3) := by decide +kernel
theorem d_cReader_readTypes_10 : decode prog_7_method_16_code 10 = .ok (.putfield 242, 3) := by decide +kernel
theorem d_cReader_readTypes_13 : decode prog_7_method_16_code 13 = .ok (.aload_n 1, 1) := by decide +kernel
theorem d_cReader_readTypes_14 : decode prog_7_method_16_code 14 = .ok (.aload_n 0, 1) := by decide +kernel
theorem d_cReader_readTypes_15 : decode prog_7_method_16_code 15 = .ok (.getfield 12, 3) := by decide +kernel
theorem d_cReader_readTypes_18 : decode prog_7_method_16_code 18 = .ok (.bipush 42, 2) := by decide +kernel
theorem d_cReader_readTypes_20 : decode prog_7_method_16_code 20 = .ok (.invokevirtual 170, 3) := by decide +kernel
theorem d_cReader_readTypes_23 : decode prog_7_method_16_code 23 = .ok (.putfield 247, 3) := by decide +kernel
theorem d_cReader_readTypes_26 : decode prog_7_method_16_code 26 = .ok (.aload_n 1, 1) := by decide +kernel
theorem d_cReader_readTypes_27 : decode prog_7_method_16_code 27 = .ok (.getfield 247, 3) := by decide +kernel
theorem d_cReader_readTypes_30 : decode prog_7_method_16_code 30 = .ok (.ifCond .ne 19, 3) := by decide +kernel
theorem d_cReader_readTypes_33 : decode prog_7_method_16_code 33 = .ok (.aload_n 0, 1) := by decide +kernel
theorem d_cReader_readTypes_34 : decode prog_7_method_16_code 34 = .ok (.getfield 12, 3) := by decide +kernel
theorem d_cReader_readTypes_37 : decode prog_7_method_16_code 37 = .ok (.bipush 123, 2) := by decide +kernel
theorem d_cReader_readTypes_39 : decode prog_7_method_16_code 39 = .ok (.invokevirtual 170, 3) := by decide +kernel
theorem d_cReader_readTypes_42 : decode prog_7_method_16_code 42 = .ok (.ifCond .eq 7, 3) := by decide +kernel
theorem d_cReader_readTypes_45 : decode prog_7_method_16_code 45 = .ok (.iconst 1, 1) := by decide +kernel
theorem d_cReader_readTypes_46 : decode prog_7_method_16_code 46 = .ok (.goto 4, 3) := by decide +kernel
theorem d_cReader_readTypes_49 : decode prog_7_method_16_code 49 = .ok (.iconst 0, 1) := by decide +kernel
theorem d_cReader_readTypes_50 : decode prog_7_method_16_code 50 = .ok (.istore_n 2, 1) := by decide +kernel
theorem d_cReader_readTypes_51 : decode prog_7_method_16_code 51 = .ok (.aload_n 1, 1) := by decide +kernel
theorem d_cReader_readTypes_52 : decode prog_7_method_16_code 52 = .ok (.getfield 247, 3) := by decide +kernel
theorem d_cReader_readTypes_55 : decode prog_7_method_16_code 55 = .ok (.ifCond .ne 7, 3) := by decide +kernel
theorem d_cReader_readTypes_58 : decode prog_7_method_16_code 58 = .ok (.iconst 1, 1) := by decide +kernel
theorem d_cReader_readTypes_59 : decode prog_7_method_16_code 59 = .ok (.goto 4, 3) := by decide +kernel
theorem d_cReader_readTypes_62 : decode prog_7_method_16_code 62 = .ok (.iconst 0, 1) := by decide +kernel
theorem d_cReader_readTypes_63 : decode prog_7_method_16_code 63 = .ok (.istore_n 3, 1) := by decide +kernel
theorem d_cReader_readTypes_64 : decode prog_7_method_16_code 64 = .ok (.iconst 0, 1) := by decide +kernel
theorem d_cReader_readTypes_65 : decode prog_7_method_16_code 65 = .ok (.istore 4, 2) := by decide +kernel
theorem d_cReader_readTypes_67 : decode prog_7_method_16_code 67 = .ok (.iload_n 3, 1) := by decide +kernel
theorem d_cReader_readTypes_68 : decode prog_7_method_16_code 68 = .ok (.ifCond .eq 74, 3) := by decide +kernel
theorem d_cReader_readTypes_71 : decode prog_7_method_16_code 71 = .ok (.iload 4, 2) := by decide +kernel
theorem d_cReader_readTypes_73 : decode prog_7_method_16_code 73 = .ok (.sipush 480, 3) := by decide +kernel
theorem d_cReader_readTypes_76 : decode prog_7_method_16_code 76 = .ok (.if_icmp .ge 66, 3) := by decide +kernel
theorem d_cReader_readTypes_79 : decode prog_7_method_16_code 79 = .ok (.iload_n 2, 1) := by decide +kernel
theorem d_cReader_readTypes_80 : decode prog_7_method_16_code 80 = .ok (.ifCond .eq 19, 3) := by decide +kernel
theorem d_cReader_readTypes_83 : decode prog_7_method_16_code 83 = .ok (.aload_n 0, 1) := by decide +kernel
theorem d_cReader_readTypes_84 : decode prog_7_method_16_code 84 = .ok (.getfield 12, 3) := by decide +kernel
theorem d_cReader_readTypes_87 : decode prog_7_method_16_code 87 = .ok (.bipush 45, 2) := by decide +kernel
theorem d_cReader_readTypes_89 : decode prog_7_method_16_code 89 = .ok (.invokevirtual 170, 3) := by decide +kernel
theorem d_cReader_readTypes_92 : decode prog_7_method_16_code 92 = .ok (.ifCond .eq 7, 3) := by decide +kernel
theorem d_cReader_readTypes_95 : decode prog_7_method_16_code 95 = .ok (.iconst 1, 1) := by decide +kernel
theorem d_cReader_readTypes_96 : decode prog_7_method_16_code 96 = .ok (.goto 4, 3) := by decide +kernel
theorem d_cReader_readTypes_99 : decode prog_7_method_16_code 99 = .ok (.iconst 0, 1) := by decide +kernel
theorem d_cReader_readTypes_100 : decode prog_7_method_16_code 100 = .ok (.istore 5, 2) := by decide +kernel
theorem d_cReader_readTypes_102 : decode prog_7_method_16_code 102 = .ok (.aload_n 0, 1) := by decide +kernel
theorem d_cReader_readTypes_103 : decode prog_7_method_16_code 103 = .ok (.aload_n 1, 1) := by decide +kernel
theorem d_cReader_readTypes_104 : decode prog_7_method_16_code 104 = .ok (.iload 5, 2) := by decide +kernel
theorem d_cReader_readTypes_106 : decode prog_7_method_16_code 106 = .ok (.invokevirtual 250, 3) := by decide +kernel
theorem d_cReader_readTypes_109 : decode prog_7_method_16_code 109 = .ok (.ifCond .ne 5, 3) := by decide +kernel
theorem d_cReader_readTypes_112 : decode prog_7_method_16_code 112 = .ok (.iconst 0, 1) := by decide +kernel
theorem d_cReader_readTypes_113 : decode prog_7_method_16_code 113 = .ok (.ireturn, 1) := by decide +kernel
theorem d_cReader_readTypes_114 : decode prog_7_method_16_code 114 = .ok (.iload_n 2, 1) := by decide +kernel
theorem d_cReader_readTypes_115 : decode prog_7_method_16_code 115 = .ok (.ifCond .eq 19, 3) := by decide +kernel
theorem d_cReader_readTypes_118 : decode prog_7_method_16_code 118 = .ok (.aload_n 0, 1) := by decide +kernel
theorem d_cReader_readTypes_119 : decode prog_7_method_16_code 119 = .ok (.getfield 12, 3) := by decide +kernel
theorem d_cReader_readTypes_122 : decode prog_7_method_16_code 122 = .ok (.bipush 125, 2) := by decide +kernel
theorem d_cReader_readTypes_124 : decode prog_7_method_16_code 124 = .ok (.invokevirtual 170, 3) := by decide +kernel
theorem d_cReader_readTypes_127 : decode prog_7_method_16_code 127 = .ok (.ifCond .ne 7, 3) := by decide +kernel
theorem d_cReader_readTypes_130 : decode prog_7_method_16_code 130 = .ok (.iconst 1, 1) := by decide +kernel
theorem d_cReader_readTypes_131 : decode prog_7_method_16_code 131 = .ok (.goto 4, 3) := by decide +kernel
theorem d_cReader_readTypes_134 : decode prog_7_method_16_code 134 = .ok (.iconst 0, 1) := by decide +kernel
theorem d_cReader_readTypes_135 : decode prog_7_method_16_code 135 = .ok (.istore_n 3, 1) := by decide +kernel
theorem d_cReader_readTypes_136 : decode prog_7_method_16_code 136 = .ok (.iinc 4 1, 3) := by decide +kernel
theorem d_cReader_readTypes_139 : decode prog_7_method_16_code 139 = .ok (.goto (-72), 3) := by decide +kernel
theorem d_cReader_readTypes_142 : decode prog_7_method_16_code 142 = .ok (.iconst 1, 1) := by decide +kernel
theorem d_cReader_readTypes_143 : decode prog_7_method_16_code 143 = .ok (.ireturn, 1) := by decide +kernel
def cReader_readTypes_J100 (kO67 : Bool → Int32 → CS → Option (CS × Bool)) (v1_100 : Nat) (v2_100 : Bool) (v4_100 : Int32) (s0_100 : Bool) (S_100 : CS) : Option (CS × Bool) := ((cReader_readTypeName v1_100 s0_100 S_100).bind fun q106 => (if q106.2 = true then (if v2_100 = true then ((cTokens_skip 125 q106.1).bind fun q124 => (if q124.2 = true then (bd ((v4_100 + 1)) fun a136 => kO67 false a136 q124.1) else (bd ((v4_100 + 1)) fun a136 => kO67 true a136 q124.1))) else (bd ((v4_100 + 1)) fun a136 => kO67 false a136 q106.1)) else some (q106.1, false)))
def cReader_readTypes_J99 (kO67 : Bool → Int32 → CS → Option (CS × Bool)) (v1_99 : Nat) (v2_99 : Bool) (v4_99 : Int32) (S_99 : CS) : Option (CS × Bool) := cReader_readTypes_J100 kO67 v1_99 v2_99 v4_99 false S_99
def cReader_readTypes_L67 (v1_67 : Nat) (v2_67 : Bool) : Nat → Bool → Int32 → CS → Option (CS × Bool)
  | 0, _, _, _ => none
  | n + 1, v3_67, v4_67, S_67 => (if v3_67 = true then (if 480 ≤ v4_67 then some (S_67, true) else (if v2_67 = true then ((cTokens_skip 45 S_67).bind fun q89 => (if q89.2 = true then cReader_readTypes_J100 (cReader_readTypes_L67 v1_67 v2_67 n) v1_67 v2_67 v4_67 true q89.1 else cReader_readTypes_J99 (cReader_readTypes_L67 v1_67 v2_67 n) v1_67 v2_67 v4_67 q89.1)) else cReader_readTypes_J99 (cReader_readTypes_L67 v1_67 v2_67 n) v1_67 v2_67 v4_67 S_67)) else some (S_67, true))
def cReader_readTypes_J50 (v1_50 : Nat) (s0_50 : Bool) (S_50 : CS) : Option (CS × Bool) := (if (gB S_50 v1_50 1) = true then cReader_readTypes_L67 v1_50 s0_50 600 false 0 S_50 else cReader_readTypes_L67 v1_50 s0_50 600 true 0 S_50)
def cReader_readTypes_J49 (v1_49 : Nat) (S_49 : CS) : Option (CS × Bool) := cReader_readTypes_J50 v1_49 false S_49
def cReader_readTypes (x1 : Nat) (S : CS) : Option (CS × Bool) := ((cTokens_skip 126 S).bind fun q7 => (bd (pB q7.1 x1 0 q7.2) fun S10 => ((cTokens_skip 42 S10).bind fun q20 => (bd (pB q20.1 x1 1 q20.2) fun S23 => (if (gB S23 x1 1) = true then cReader_readTypes_J49 x1 S23 else ((cTokens_skip 123 S23).bind fun q39 => (if q39.2 = true then cReader_readTypes_J50 x1 true q39.1 else cReader_readTypes_J49 x1 q39.1)))))))
set_option maxHeartbeats 4000000 in
set_option maxRecDepth 100000 in
theorem M_cReader_readTypes {l : Launch} {D : va_G} {cA : Nat → ClassId} {b : Nat} {ad : Nat → Nat} {x1 : Nat} {S : CS} {T : MS × (Nat → Int64)} {rr : (CS × Bool)} (hk1 : kd x1 = 15) (h : cReader_readTypes x1 S = some rr) : Met l y_cReader_readTypes (Cond.code y_cReader_readTypes prog_7_method_16_code 6 (Option.some Jvm.ClassFile.FieldType.boolean) :: TW) { frames := 2, cells := 0, slots := 0, locals := 47 } (va_Pc [.ref (b + 2), .ref (b + x1)] (Rp D cA b ad (S, T))) (Qr D cA b ad (rr.1, T) (some (.int (bI rr.2)))) 0 0 (Ab b) := by
  refine Ct_of (by decide) (Nat.le_of_ble_eq_true rfl) ?_
  intro p e R s m args below meth c ls Q H locs hR hQ hx hb hts hown hml hr hlk hC hX hS hl
  have hRf : R.frames = 2 := by rw [hR]
  have hRl : R.locals = 47 := by rw [hR]
  have hown : s.vm.findClass "TypeGuard$Reader" = some m.cls := hown
  have hl : lv_has ls 6 [(0, .ref (b + 2)), (1, .ref (b + x1))] := hl
  rw [cReader_readTypes] at h
  refine lv_aload_n hx hb d_cReader_readTypes_0 rfl (lv_at hl 1 rfl) ?_
  refine lv_aload_n hx hb d_cReader_readTypes_1 rfl (lv_at hl 0 rfl) ?_
  refine c_get_2_0 hx hb hts hown hC hX (by rfl) (hts _ t_227) d_cReader_readTypes_2 ?_
  refine lv_bipush (v := 126) hx hb d_cReader_readTypes_5 (by decide) ?_
  obtain ⟨q7, hc7, h⟩ := Option.bind_eq_some_iff.mp h
  refine ck_V (As := [.int 126]) (rest := [.ref (b + x1)]) (st1 := [.int (bI q7.2), .ref (b + x1)]) (M_cTokens_skip  hc7) t_599 t_600 t_601 t_602 t_3 hx hb hts hown hC hX hS (hrc_c3 hC hX (by rfl)) hml hl.1 ⟨by rw [hRf]; decide, by rw [hRl]; decide⟩ ⟨rfl, rfl⟩ (n := 1) (by decide +kernel) rfl rfl rfl (lv_room (Nat.le_of_ble_eq_true rfl)) d_cReader_readTypes_7 (fun H locs hX hS => ?_)
  refine c_put_15_0N (k := x1) (v := q7.2) hx hb hts hown hC hX hS hk1 (va_Nw.use rfl (hC.2.1 _ t_105)) d_cReader_readTypes_10 (fun H locs hX hS => ?_)
  obtain ⟨S10, e10, h⟩ := bd_some h
  rw [← e10] at hX
  refine lv_aload_n hx hb d_cReader_readTypes_13 rfl (lv_at hl 1 rfl) ?_
  refine lv_aload_n hx hb d_cReader_readTypes_14 rfl (lv_at hl 0 rfl) ?_
  refine c_get_2_0 hx hb hts hown hC hX (by rfl) (hts _ t_227) d_cReader_readTypes_15 ?_
  refine lv_bipush (v := 42) hx hb d_cReader_readTypes_18 (by decide) ?_
  obtain ⟨q20, hc20, h⟩ := Option.bind_eq_some_iff.mp h
  refine ck_V (As := [.int 42]) (rest := [.ref (b + x1)]) (st1 := [.int (bI q20.2), .ref (b + x1)]) (M_cTokens_skip  hc20) t_599 t_600 t_601 t_602 t_3 hx hb hts hown hC hX hS (hrc_c3 hC hX (by rfl)) hml hl.1 ⟨by rw [hRf]; decide, by rw [hRl]; decide⟩ ⟨rfl, rfl⟩ (n := 1) (by decide +kernel) rfl rfl rfl (lv_room (Nat.le_of_ble_eq_true rfl)) d_cReader_readTypes_20 (fun H locs hX hS => ?_)
  refine c_put_15_1N (k := x1) (v := q20.2) hx hb hts hown hC hX hS hk1 (va_Nw.use rfl (hC.2.1 _ t_107)) d_cReader_readTypes_23 (fun H locs hX hS => ?_)
  obtain ⟨S23, e23, h⟩ := bd_some h
  rw [← e23] at hX
  refine lv_aload_n hx hb d_cReader_readTypes_26 rfl (lv_at hl 1 rfl) ?_
  refine c_get_15_1N (k := x1) hx hb hts hown hC hX hk1 (va_Nw.use rfl (hC.2.1 _ t_107)) d_cReader_readTypes_27 ?_
  have J50 : ∀ (s0_50 : Bool) (S_50 : CS) (H : Heap) (locs : List Loc) (ls : Array Slot), hp D cA b ad (S_50, T) H → va_S (Ab b) s.heap H locs → lv_has ls 6 [(0, .ref (b + 2)), (1, .ref (b + x1))] → cReader_readTypes_J50 x1 s0_50 S_50 = some rr → W p l e R s m args below meth c H locs 0 0 Q (F0 m 50 ls [.int (bI s0_50)]) := by
    intro s0_50 S_50 H locs ls  hX hS hl h
    rw [cReader_readTypes_J50] at h
    refine lv_istore_n (lv' := [(2, .int (bI s0_50)), (0, .ref (b + 2)), (1, .ref (b + x1))]) hx hb d_cReader_readTypes_50 rfl hl (by decide) rfl (fun ls hl => ?_)
    refine lv_aload_n hx hb d_cReader_readTypes_51 rfl (lv_at hl 2 rfl) ?_
    refine c_get_15_1N (k := x1) hx hb hts hown hC hX hk1 (va_Nw.use rfl (hC.2.1 _ t_107)) d_cReader_readTypes_52 ?_
    refine lz_ifne hx hb d_cReader_readTypes_55 (tgt := 62) (by decide) (fun hc => ?_) (fun hc => ?_)
    · rw [if_pos hc] at h
      refine lv_iconst (v := 0) hx hb d_cReader_readTypes_62 (by decide) ?_
      refine lv_istore_n (lv' := [(3, .int (bI false)), (2, .int (bI s0_50)), (0, .ref (b + 2)), (1, .ref (b + x1))]) hx hb d_cReader_readTypes_63 rfl hl (by decide) rfl (fun ls hl => ?_)
      refine lv_iconst (v := 0) hx hb d_cReader_readTypes_64 (by decide) ?_
      refine lv_istore (lv' := [(4, .int 0), (3, .int (bI false)), (2, .int (bI s0_50)), (0, .ref (b + 2)), (1, .ref (b + x1))]) hx hb d_cReader_readTypes_65 hl (by decide) rfl (fun ls hl => ?_)
      have L67 : ∀ (n67 : Nat) (v3_67 : Bool) (v4_67 : Int32) (S_67 : CS) (H : Heap) (locs : List Loc) (ls : Array Slot), hp D cA b ad (S_67, T) H → va_S (Ab b) s.heap H locs → lv_has ls 6 [(0, .ref (b + 2)), (1, .ref (b + x1)), (2, .int (bI s0_50)), (3, .int (bI v3_67)), (4, .int v4_67)] → cReader_readTypes_L67 x1 s0_50 n67 v3_67 v4_67 S_67 = some rr → W p l e R s m args below meth c H locs 0 0 Q (F0 m 67 ls []) := by
        intro n67; induction n67 with
        | zero => intro v3_67 v4_67 S_67 H locs ls  hX hS hl h; rw [cReader_readTypes_L67] at h; cases h
        | succ n67 ih67 =>
          intro v3_67 v4_67 S_67 H locs ls  hX hS hl h
          rw [cReader_readTypes_L67] at h
          refine lv_iload_n hx hb d_cReader_readTypes_67 rfl (lv_at hl 3 rfl) ?_
          refine lz_ifeq hx hb d_cReader_readTypes_68 (tgt := 142) (by decide) (fun hc => ?_) (fun hc => ?_)
          · rw [if_neg hc] at h
            refine lv_iconst (v := 1) hx hb d_cReader_readTypes_142 (by decide) ?_
            obtain rfl := Option.some.inj h
            exact rt_zt hQ hx hb hr hX hS hlk d_cReader_readTypes_143
          · rw [if_pos hc] at h
            refine lv_iload hx hb d_cReader_readTypes_71 (lv_at hl 4 rfl) ?_
            refine lv_sipush (v := 480) hx hb d_cReader_readTypes_73 (by decide) ?_
            refine lv_icmp_ge hx hb d_cReader_readTypes_76 (tgt := 142) (by decide) (fun hc => ?_) (fun hc => ?_)
            · rw [if_pos hc] at h
              refine lv_iconst (v := 1) hx hb d_cReader_readTypes_142 (by decide) ?_
              obtain rfl := Option.some.inj h
              exact rt_zt hQ hx hb hr hX hS hlk d_cReader_readTypes_143
            · rw [if_neg hc] at h
              refine lv_iload_n hx hb d_cReader_readTypes_79 rfl (lv_at hl 2 rfl) ?_
              have J100 : ∀ (s0_100 : Bool) (S_100 : CS) (H : Heap) (locs : List Loc) (ls : Array Slot), hp D cA b ad (S_100, T) H → va_S (Ab b) s.heap H locs → lv_has ls 6 [(0, .ref (b + 2)), (1, .ref (b + x1)), (2, .int (bI s0_50)), (4, .int v4_67)] → cReader_readTypes_J100 (cReader_readTypes_L67 x1 s0_50 n67) x1 s0_50 v4_67 s0_100 S_100 = some rr → W p l e R s m args below meth c H locs 0 0 Q (F0 m 100 ls [.int (bI s0_100)]) := by
                intro s0_100 S_100 H locs ls  hX hS hl h
                rw [cReader_readTypes_J100] at h
                refine lv_istore (lv' := [(5, .int (bI s0_100)), (0, .ref (b + 2)), (1, .ref (b + x1)), (2, .int (bI s0_50)), (4, .int v4_67)]) hx hb d_cReader_readTypes_100 hl (by decide) rfl (fun ls hl => ?_)
                refine lv_aload_n hx hb d_cReader_readTypes_102 rfl (lv_at hl 1 rfl) ?_
                refine lv_aload_n hx hb d_cReader_readTypes_103 rfl (lv_at hl 2 rfl) ?_
                refine lv_iload hx hb d_cReader_readTypes_104 (lv_at hl 0 rfl) ?_
                obtain ⟨q106, hc106, h⟩ := Option.bind_eq_some_iff.mp h
                refine ck_V (As := [.ref (b + x1), .int (bI s0_100)]) (rest := []) (st1 := [.int (bI q106.2)]) (M_cReader_readTypeName hk1 hc106) t_605 t_607 p_10 t_608 t_2 hx hb hts hown hC hX hS (hrc_c2 hC hX (by rfl)) hml hl.1 ⟨by rw [hRf]; decide, by rw [hRl]; decide⟩ ⟨rfl, rfl⟩ (n := 2) (by decide +kernel) rfl rfl rfl (lv_room (Nat.le_of_ble_eq_true rfl)) d_cReader_readTypes_106 (fun H locs hX hS => ?_)
                refine lz_ifne hx hb d_cReader_readTypes_109 (tgt := 114) (by decide) (fun hc => ?_) (fun hc => ?_)
                · rw [if_pos hc] at h
                  refine lv_iload_n hx hb d_cReader_readTypes_114 rfl (lv_at hl 3 rfl) ?_
                  refine lz_ifeq hx hb d_cReader_readTypes_115 (tgt := 134) (by decide) (fun hc => ?_) (fun hc => ?_)
                  · rw [if_neg hc] at h
                    refine lv_iconst (v := 0) hx hb d_cReader_readTypes_134 (by decide) ?_
                    refine lv_istore_n (lv' := [(3, .int (bI false)), (5, .int (bI s0_100)), (0, .ref (b + 2)), (1, .ref (b + x1)), (2, .int (bI s0_50)), (4, .int v4_67)]) hx hb d_cReader_readTypes_135 rfl hl (by decide) rfl (fun ls hl => ?_)
                    obtain ⟨a136, e136, h⟩ := bd_some h
                    refine lv_iinc (v := a136) (lv' := [(4, .int a136), (3, .int (bI false)), (5, .int (bI s0_100)), (0, .ref (b + 2)), (1, .ref (b + x1)), (2, .int (bI s0_50))]) hx hb d_cReader_readTypes_136 hl (k := 5) rfl e136.symm (by decide) rfl (fun ls hl => ?_)
                    refine lv_goto hx hb d_cReader_readTypes_139 (tgt := 67) (by decide) ?_
                    exact ih67 false a136 q106.1 H locs ls  hX hS (lv_sub hl [3, 4, 5, 1, 0] rfl) h
                  · rw [if_pos hc] at h
                    refine lv_aload_n hx hb d_cReader_readTypes_118 rfl (lv_at hl 1 rfl) ?_
                    refine c_get_2_0 hx hb hts hown hC hX (by rfl) (hts _ t_227) d_cReader_readTypes_119 ?_
                    refine lv_bipush (v := 125) hx hb d_cReader_readTypes_122 (by decide) ?_
                    obtain ⟨q124, hc124, h⟩ := Option.bind_eq_some_iff.mp h
                    refine ck_V (As := [.int 125]) (rest := []) (st1 := [.int (bI q124.2)]) (M_cTokens_skip  hc124) t_599 t_600 t_601 t_602 t_3 hx hb hts hown hC hX hS (hrc_c3 hC hX (by rfl)) hml hl.1 ⟨by rw [hRf]; decide, by rw [hRl]; decide⟩ ⟨rfl, rfl⟩ (n := 1) (by decide +kernel) rfl rfl rfl (lv_room (Nat.le_of_ble_eq_true rfl)) d_cReader_readTypes_124 (fun H locs hX hS => ?_)
                    refine lz_ifne hx hb d_cReader_readTypes_127 (tgt := 134) (by decide) (fun hc => ?_) (fun hc => ?_)
                    · rw [if_pos hc] at h
                      refine lv_iconst (v := 0) hx hb d_cReader_readTypes_134 (by decide) ?_
                      refine lv_istore_n (lv' := [(3, .int (bI false)), (5, .int (bI s0_100)), (0, .ref (b + 2)), (1, .ref (b + x1)), (2, .int (bI s0_50)), (4, .int v4_67)]) hx hb d_cReader_readTypes_135 rfl hl (by decide) rfl (fun ls hl => ?_)
                      obtain ⟨a136, e136, h⟩ := bd_some h
                      refine lv_iinc (v := a136) (lv' := [(4, .int a136), (3, .int (bI false)), (5, .int (bI s0_100)), (0, .ref (b + 2)), (1, .ref (b + x1)), (2, .int (bI s0_50))]) hx hb d_cReader_readTypes_136 hl (k := 5) rfl e136.symm (by decide) rfl (fun ls hl => ?_)
                      refine lv_goto hx hb d_cReader_readTypes_139 (tgt := 67) (by decide) ?_
                      exact ih67 false a136 q124.1 H locs ls  hX hS (lv_sub hl [3, 4, 5, 1, 0] rfl) h
                    · rw [if_neg hc] at h
                      refine lv_iconst (v := 1) hx hb d_cReader_readTypes_130 (by decide) ?_
                      refine lv_goto hx hb d_cReader_readTypes_131 (tgt := 135) (by decide) ?_
                      refine lv_istore_n (lv' := [(3, .int (bI true)), (5, .int (bI s0_100)), (0, .ref (b + 2)), (1, .ref (b + x1)), (2, .int (bI s0_50)), (4, .int v4_67)]) hx hb d_cReader_readTypes_135 rfl hl (by decide) rfl (fun ls hl => ?_)
                      obtain ⟨a136, e136, h⟩ := bd_some h
                      refine lv_iinc (v := a136) (lv' := [(4, .int a136), (3, .int (bI true)), (5, .int (bI s0_100)), (0, .ref (b + 2)), (1, .ref (b + x1)), (2, .int (bI s0_50))]) hx hb d_cReader_readTypes_136 hl (k := 5) rfl e136.symm (by decide) rfl (fun ls hl => ?_)
                      refine lv_goto hx hb d_cReader_readTypes_139 (tgt := 67) (by decide) ?_
                      exact ih67 true a136 q124.1 H locs ls  hX hS (lv_sub hl [3, 4, 5, 1, 0] rfl) h
                · rw [if_neg hc] at h
                  refine lv_iconst (v := 0) hx hb d_cReader_readTypes_112 (by decide) ?_
                  obtain rfl := Option.some.inj h
                  exact rt_zf hQ hx hb hr hX hS hlk d_cReader_readTypes_113
              have J99 : ∀ (S_99 : CS) (H : Heap) (locs : List Loc) (ls : Array Slot), hp D cA b ad (S_99, T) H → va_S (Ab b) s.heap H locs → lv_has ls 6 [(0, .ref (b + 2)), (1, .ref (b + x1)), (2, .int (bI s0_50)), (4, .int v4_67)] → cReader_readTypes_J99 (cReader_readTypes_L67 x1 s0_50 n67) x1 s0_50 v4_67 S_99 = some rr → W p l e R s m args below meth c H locs 0 0 Q (F0 m 99 ls []) := by
                intro S_99 H locs ls  hX hS hl h
                rw [cReader_readTypes_J99] at h
                refine lv_iconst (v := 0) hx hb d_cReader_readTypes_99 (by decide) ?_
                exact J100 false S_99 H locs ls  hX hS (lv_sub hl [0, 1, 2, 3] rfl) h
              refine lz_ifeq hx hb d_cReader_readTypes_80 (tgt := 99) (by decide) (fun hc => ?_) (fun hc => ?_)
              · rw [if_neg hc] at h
                exact J99 S_67 H locs ls  hX hS (lv_sub hl [0, 1, 2, 4] rfl) h
              · rw [if_pos hc] at h
                refine lv_aload_n hx hb d_cReader_readTypes_83 rfl (lv_at hl 0 rfl) ?_
                refine c_get_2_0 hx hb hts hown hC hX (by rfl) (hts _ t_227) d_cReader_readTypes_84 ?_
                refine lv_bipush (v := 45) hx hb d_cReader_readTypes_87 (by decide) ?_
                obtain ⟨q89, hc89, h⟩ := Option.bind_eq_some_iff.mp h
                refine ck_V (As := [.int 45]) (rest := []) (st1 := [.int (bI q89.2)]) (M_cTokens_skip  hc89) t_599 t_600 t_601 t_602 t_3 hx hb hts hown hC hX hS (hrc_c3 hC hX (by rfl)) hml hl.1 ⟨by rw [hRf]; decide, by rw [hRl]; decide⟩ ⟨rfl, rfl⟩ (n := 1) (by decide +kernel) rfl rfl rfl (lv_room (Nat.le_of_ble_eq_true rfl)) d_cReader_readTypes_89 (fun H locs hX hS => ?_)
                refine lz_ifeq hx hb d_cReader_readTypes_92 (tgt := 99) (by decide) (fun hc => ?_) (fun hc => ?_)
                · rw [if_neg hc] at h
                  exact J99 q89.1 H locs ls  hX hS (lv_sub hl [0, 1, 2, 4] rfl) h
                · rw [if_pos hc] at h
                  refine lv_iconst (v := 1) hx hb d_cReader_readTypes_95 (by decide) ?_
                  refine lv_goto hx hb d_cReader_readTypes_96 (tgt := 100) (by decide) ?_
                  exact J100 true q89.1 H locs ls  hX hS (lv_sub hl [0, 1, 2, 4] rfl) h
      exact L67 600 false 0 S_50 H locs ls  hX hS (lv_sub hl [3, 4, 2, 1, 0] rfl) h
    · rw [if_neg hc] at h
      refine lv_iconst (v := 1) hx hb d_cReader_readTypes_58 (by decide) ?_
      refine lv_goto hx hb d_cReader_readTypes_59 (tgt := 63) (by decide) ?_
      refine lv_istore_n (lv' := [(3, .int (bI true)), (2, .int (bI s0_50)), (0, .ref (b + 2)), (1, .ref (b + x1))]) hx hb d_cReader_readTypes_63 rfl hl (by decide) rfl (fun ls hl => ?_)
      refine lv_iconst (v := 0) hx hb d_cReader_readTypes_64 (by decide) ?_
      refine lv_istore (lv' := [(4, .int 0), (3, .int (bI true)), (2, .int (bI s0_50)), (0, .ref (b + 2)), (1, .ref (b + x1))]) hx hb d_cReader_readTypes_65 hl (by decide) rfl (fun ls hl => ?_)
      have L67 : ∀ (n67 : Nat) (v3_67 : Bool) (v4_67 : Int32) (S_67 : CS) (H : Heap) (locs : List Loc) (ls : Array Slot), hp D cA b ad (S_67, T) H → va_S (Ab b) s.heap H locs → lv_has ls 6 [(0, .ref (b + 2)), (1, .ref (b + x1)), (2, .int (bI s0_50)), (3, .int (bI v3_67)), (4, .int v4_67)] → cReader_readTypes_L67 x1 s0_50 n67 v3_67 v4_67 S_67 = some rr → W p l e R s m args below meth c H locs 0 0 Q (F0 m 67 ls []) := by
        intro n67; induction n67 with
        | zero => intro v3_67 v4_67 S_67 H locs ls  hX hS hl h; rw [cReader_readTypes_L67] at h; cases h
        | succ n67 ih67 =>
          intro v3_67 v4_67 S_67 H locs ls  hX hS hl h
          rw [cReader_readTypes_L67] at h
          refine lv_iload_n hx hb d_cReader_readTypes_67 rfl (lv_at hl 3 rfl) ?_
          refine lz_ifeq hx hb d_cReader_readTypes_68 (tgt := 142) (by decide) (fun hc => ?_) (fun hc => ?_)
          · rw [if_neg hc] at h
            refine lv_iconst (v := 1) hx hb d_cReader_readTypes_142 (by decide) ?_
            obtain rfl := Option.some.inj h
            exact rt_zt hQ hx hb hr hX hS hlk d_cReader_readTypes_143
          · rw [if_pos hc] at h
            refine lv_iload hx hb d_cReader_readTypes_71 (lv_at hl 4 rfl) ?_
            refine lv_sipush (v := 480) hx hb d_cReader_readTypes_73 (by decide) ?_
            refine lv_icmp_ge hx hb d_cReader_readTypes_76 (tgt := 142) (by decide) (fun hc => ?_) (fun hc => ?_)
            · rw [if_pos hc] at h
              refine lv_iconst (v := 1) hx hb d_cReader_readTypes_142 (by decide) ?_
              obtain rfl := Option.some.inj h
              exact rt_zt hQ hx hb hr hX hS hlk d_cReader_readTypes_143
            · rw [if_neg hc] at h
              refine lv_iload_n hx hb d_cReader_readTypes_79 rfl (lv_at hl 2 rfl) ?_
              have J100 : ∀ (s0_100 : Bool) (S_100 : CS) (H : Heap) (locs : List Loc) (ls : Array Slot), hp D cA b ad (S_100, T) H → va_S (Ab b) s.heap H locs → lv_has ls 6 [(0, .ref (b + 2)), (1, .ref (b + x1)), (2, .int (bI s0_50)), (4, .int v4_67)] → cReader_readTypes_J100 (cReader_readTypes_L67 x1 s0_50 n67) x1 s0_50 v4_67 s0_100 S_100 = some rr → W p l e R s m args below meth c H locs 0 0 Q (F0 m 100 ls [.int (bI s0_100)]) := by
                intro s0_100 S_100 H locs ls  hX hS hl h
                rw [cReader_readTypes_J100] at h
                refine lv_istore (lv' := [(5, .int (bI s0_100)), (0, .ref (b + 2)), (1, .ref (b + x1)), (2, .int (bI s0_50)), (4, .int v4_67)]) hx hb d_cReader_readTypes_100 hl (by decide) rfl (fun ls hl => ?_)
                refine lv_aload_n hx hb d_cReader_readTypes_102 rfl (lv_at hl 1 rfl) ?_
                refine lv_aload_n hx hb d_cReader_readTypes_103 rfl (lv_at hl 2 rfl) ?_
                refine lv_iload hx hb d_cReader_readTypes_104 (lv_at hl 0 rfl) ?_
                obtain ⟨q106, hc106, h⟩ := Option.bind_eq_some_iff.mp h
                refine ck_V (As := [.ref (b + x1), .int (bI s0_100)]) (rest := []) (st1 := [.int (bI q106.2)]) (M_cReader_readTypeName hk1 hc106) t_605 t_607 p_10 t_608 t_2 hx hb hts hown hC hX hS (hrc_c2 hC hX (by rfl)) hml hl.1 ⟨by rw [hRf]; decide, by rw [hRl]; decide⟩ ⟨rfl, rfl⟩ (n := 2) (by decide +kernel) rfl rfl rfl (lv_room (Nat.le_of_ble_eq_true rfl)) d_cReader_readTypes_106 (fun H locs hX hS => ?_)
                refine lz_ifne hx hb d_cReader_readTypes_109 (tgt := 114) (by decide) (fun hc => ?_) (fun hc => ?_)
                · rw [if_pos hc] at h
                  refine lv_iload_n hx hb d_cReader_readTypes_114 rfl (lv_at hl 3 rfl) ?_
                  refine lz_ifeq hx hb d_cReader_readTypes_115 (tgt := 134) (by decide) (fun hc => ?_) (fun hc => ?_)
                  · rw [if_neg hc] at h
                    refine lv_iconst (v := 0) hx hb d_cReader_readTypes_134 (by decide) ?_
                    refine lv_istore_n (lv' := [(3, .int (bI false)), (5, .int (bI s0_100)), (0, .ref (b + 2)), (1, .ref (b + x1)), (2, .int (bI s0_50)), (4, .int v4_67)]) hx hb d_cReader_readTypes_135 rfl hl (by decide) rfl (fun ls hl => ?_)
                    obtain ⟨a136, e136, h⟩ := bd_some h
                    refine lv_iinc (v := a136) (lv' := [(4, .int a136), (3, .int (bI false)), (5, .int (bI s0_100)), (0, .ref (b + 2)), (1, .ref (b + x1)), (2, .int (bI s0_50))]) hx hb d_cReader_readTypes_136 hl (k := 5) rfl e136.symm (by decide) rfl (fun ls hl => ?_)
                    refine lv_goto hx hb d_cReader_readTypes_139 (tgt := 67) (by decide) ?_
                    exact ih67 false a136 q106.1 H locs ls  hX hS (lv_sub hl [3, 4, 5, 1, 0] rfl) h
                  · rw [if_pos hc] at h
                    refine lv_aload_n hx hb d_cReader_readTypes_118 rfl (lv_at hl 1 rfl) ?_
                    refine c_get_2_0 hx hb hts hown hC hX (by rfl) (hts _ t_227) d_cReader_readTypes_119 ?_
                    refine lv_bipush (v := 125) hx hb d_cReader_readTypes_122 (by decide) ?_
                    obtain ⟨q124, hc124, h⟩ := Option.bind_eq_some_iff.mp h
                    refine ck_V (As := [.int 125]) (rest := []) (st1 := [.int (bI q124.2)]) (M_cTokens_skip  hc124) t_599 t_600 t_601 t_602 t_3 hx hb hts hown hC hX hS (hrc_c3 hC hX (by rfl)) hml hl.1 ⟨by rw [hRf]; decide, by rw [hRl]; decide⟩ ⟨rfl, rfl⟩ (n := 1) (by decide +kernel) rfl rfl rfl (lv_room (Nat.le_of_ble_eq_true rfl)) d_cReader_readTypes_124 (fun H locs hX hS => ?_)
                    refine lz_ifne hx hb d_cReader_readTypes_127 (tgt := 134) (by decide) (fun hc => ?_) (fun hc => ?_)
                    · rw [if_pos hc] at h
                      refine lv_iconst (v := 0) hx hb d_cReader_readTypes_134 (by decide) ?_
                      refine lv_istore_n (lv' := [(3, .int (bI false)), (5, .int (bI s0_100)), (0, .ref (b + 2)), (1, .ref (b + x1)), (2, .int (bI s0_50)), (4, .int v4_67)]) hx hb d_cReader_readTypes_135 rfl hl (by decide) rfl (fun ls hl => ?_)
                      obtain ⟨a136, e136, h⟩ := bd_some h
                      refine lv_iinc (v := a136) (lv' := [(4, .int a136), (3, .int (bI false)), (5, .int (bI s0_100)), (0, .ref (b + 2)), (1, .ref (b + x1)), (2, .int (bI s0_50))]) hx hb d_cReader_readTypes_136 hl (k := 5) rfl e136.symm (by decide) rfl (fun ls hl => ?_)
                      refine lv_goto hx hb d_cReader_readTypes_139 (tgt := 67) (by decide) ?_
                      exact ih67 false a136 q124.1 H locs ls  hX hS (lv_sub hl [3, 4, 5, 1, 0] rfl) h
                    · rw [if_neg hc] at h
                      refine lv_iconst (v := 1) hx hb d_cReader_readTypes_130 (by decide) ?_
                      refine lv_goto hx hb d_cReader_readTypes_131 (tgt := 135) (by decide) ?_
                      refine lv_istore_n (lv' := [(3, .int (bI true)), (5, .int (bI s0_100)), (0, .ref (b + 2)), (1, .ref (b + x1)), (2, .int (bI s0_50)), (4, .int v4_67)]) hx hb d_cReader_readTypes_135 rfl hl (by decide) rfl (fun ls hl => ?_)
                      obtain ⟨a136, e136, h⟩ := bd_some h
                      refine lv_iinc (v := a136) (lv' := [(4, .int a136), (3, .int (bI true)), (5, .int (bI s0_100)), (0, .ref (b + 2)), (1, .ref (b + x1)), (2, .int (bI s0_50))]) hx hb d_cReader_readTypes_136 hl (k := 5) rfl e136.symm (by decide) rfl (fun ls hl => ?_)
                      refine lv_goto hx hb d_cReader_readTypes_139 (tgt := 67) (by decide) ?_
                      exact ih67 true a136 q124.1 H locs ls  hX hS (lv_sub hl [3, 4, 5, 1, 0] rfl) h
                · rw [if_neg hc] at h
                  refine lv_iconst (v := 0) hx hb d_cReader_readTypes_112 (by decide) ?_
                  obtain rfl := Option.some.inj h
                  exact rt_zf hQ hx hb hr hX hS hlk d_cReader_readTypes_113
              have J99 : ∀ (S_99 : CS) (H : Heap) (locs : List Loc) (ls : Array Slot), hp D cA b ad (S_99, T) H → va_S (Ab b) s.heap H locs → lv_has ls 6 [(0, .ref (b + 2)), (1, .ref (b + x1)), (2, .int (bI s0_50)), (4, .int v4_67)] → cReader_readTypes_J99 (cReader_readTypes_L67 x1 s0_50 n67) x1 s0_50 v4_67 S_99 = some rr → W p l e R s m args below meth c H locs 0 0 Q (F0 m 99 ls []) := by
                intro S_99 H locs ls  hX hS hl h
                rw [cReader_readTypes_J99] at h
                refine lv_iconst (v := 0) hx hb d_cReader_readTypes_99 (by decide) ?_
                exact J100 false S_99 H locs ls  hX hS (lv_sub hl [0, 1, 2, 3] rfl) h
              refine lz_ifeq hx hb d_cReader_readTypes_80 (tgt := 99) (by decide) (fun hc => ?_) (fun hc => ?_)
              · rw [if_neg hc] at h
                exact J99 S_67 H locs ls  hX hS (lv_sub hl [0, 1, 2, 4] rfl) h
              · rw [if_pos hc] at h
                refine lv_aload_n hx hb d_cReader_readTypes_83 rfl (lv_at hl 0 rfl) ?_
                refine c_get_2_0 hx hb hts hown hC hX (by rfl) (hts _ t_227) d_cReader_readTypes_84 ?_
                refine lv_bipush (v := 45) hx hb d_cReader_readTypes_87 (by decide) ?_
                obtain ⟨q89, hc89, h⟩ := Option.bind_eq_some_iff.mp h
                refine ck_V (As := [.int 45]) (rest := []) (st1 := [.int (bI q89.2)]) (M_cTokens_skip  hc89) t_599 t_600 t_601 t_602 t_3 hx hb hts hown hC hX hS (hrc_c3 hC hX (by rfl)) hml hl.1 ⟨by rw [hRf]; decide, by rw [hRl]; decide⟩ ⟨rfl, rfl⟩ (n := 1) (by decide +kernel) rfl rfl rfl (lv_room (Nat.le_of_ble_eq_true rfl)) d_cReader_readTypes_89 (fun H locs hX hS => ?_)
                refine lz_ifeq hx hb d_cReader_readTypes_92 (tgt := 99) (by decide) (fun hc => ?_) (fun hc => ?_)
                · rw [if_neg hc] at h
                  exact J99 q89.1 H locs ls  hX hS (lv_sub hl [0, 1, 2, 4] rfl) h
                · rw [if_pos hc] at h
                  refine lv_iconst (v := 1) hx hb d_cReader_readTypes_95 (by decide) ?_
                  refine lv_goto hx hb d_cReader_readTypes_96 (tgt := 100) (by decide) ?_
                  exact J100 true q89.1 H locs ls  hX hS (lv_sub hl [0, 1, 2, 4] rfl) h
      exact L67 600 true 0 S_50 H locs ls  hX hS (lv_sub hl [3, 4, 2, 1, 0] rfl) h
  have J49 : ∀ (S_49 : CS) (H : Heap) (locs : List Loc) (ls : Array Slot), hp D cA b ad (S_49, T) H → va_S (Ab b) s.heap H locs → lv_has ls 6 [(0, .ref (b + 2)), (1, .ref (b + x1))] → cReader_readTypes_J49 x1 S_49 = some rr → W p l e R s m args below meth c H locs 0 0 Q (F0 m 49 ls []) := by
    intro S_49 H locs ls  hX hS hl h
    rw [cReader_readTypes_J49] at h
    refine lv_iconst (v := 0) hx hb d_cReader_readTypes_49 (by decide) ?_
    exact J50 false S_49 H locs ls  hX hS (lv_sub hl [0, 1] rfl) h
  refine lz_ifne hx hb d_cReader_readTypes_30 (tgt := 49) (by decide) (fun hc => ?_) (fun hc => ?_)
  · rw [if_pos hc] at h
    exact J49 S23 H locs ls  hX hS (lv_sub hl [0, 1] rfl) h
  · rw [if_neg hc] at h
    refine lv_aload_n hx hb d_cReader_readTypes_33 rfl (lv_at hl 0 rfl) ?_
    refine c_get_2_0 hx hb hts hown hC hX (by rfl) (hts _ t_227) d_cReader_readTypes_34 ?_
    refine lv_bipush (v := 123) hx hb d_cReader_readTypes_37 (by decide) ?_
    obtain ⟨q39, hc39, h⟩ := Option.bind_eq_some_iff.mp h
    refine ck_V (As := [.int 123]) (rest := []) (st1 := [.int (bI q39.2)]) (M_cTokens_skip  hc39) t_599 t_600 t_601 t_602 t_3 hx hb hts hown hC hX hS (hrc_c3 hC hX (by rfl)) hml hl.1 ⟨by rw [hRf]; decide, by rw [hRl]; decide⟩ ⟨rfl, rfl⟩ (n := 1) (by decide +kernel) rfl rfl rfl (lv_room (Nat.le_of_ble_eq_true rfl)) d_cReader_readTypes_39 (fun H locs hX hS => ?_)
    refine lz_ifeq hx hb d_cReader_readTypes_42 (tgt := 49) (by decide) (fun hc => ?_) (fun hc => ?_)
    · rw [if_neg hc] at h
      exact J49 q39.1 H locs ls  hX hS (lv_sub hl [0, 1] rfl) h
    · rw [if_pos hc] at h
      refine lv_iconst (v := 1) hx hb d_cReader_readTypes_45 (by decide) ?_
      refine lv_goto hx hb d_cReader_readTypes_46 (tgt := 50) (by decide) ?_
      exact J50 true q39.1 H locs ls  hX hS (lv_sub hl [0, 1] rfl) h
abbrev y_cTokens_skipWord : MethodName := ({ cls := "TypeGuard$Tokens", name := "skipWord", desc := "(LTypeGuard$Word;)Z" } : Jvm.MethodName)
theorem d_cTokens_skipWord_0 : decode prog_9_method_9_code 0 = .ok (.aload_n 0, 1) := by decide +kernel
theorem d_cTokens_skipWord_1 : decode prog_9_method_9_code 1 = .ok (.getfield 19, 3) := by decide +kernel
theorem d_cTokens_skipWord_4 : decode prog_9_method_9_code 4 = .ok (.aload_n 0, 1) := by decide +kernel
theorem d_cTokens_skipWord_5 : decode prog_9_method_9_code 5 = .ok (.getfield 27, 3) := by decide +kernel
theorem d_cTokens_skipWord_8 : decode prog_9_method_9_code 8 = .ok (.laload, 1) := by decide +kernel
theorem d_cTokens_skipWord_9 : decode prog_9_method_9_code 9 = .ok (.aload_n 1, 1) := by decide +kernel
theorem d_cTokens_skipWord_10 : decode prog_9_method_9_code 10 = .ok (.getfield 61, 3) := by decide +kernel
theorem d_cTokens_skipWord_13 : decode prog_9_method_9_code 13 = .ok (.lcmp, 1) := by decide +kernel
theorem d_cTokens_skipWord_14 : decode prog_9_method_9_code 14 = .ok (.ifCond .ne 7, 3) := by decide +kernel
theorem d_cTokens_skipWord_17 : decode prog_9_method_9_code 17 = .ok (.iconst 1, 1) := by decide +kernel
theorem d_cTokens_skipWord_18 : decode prog_9_method_9_code 18 = .ok (.goto 4, 3) := by decide +kernel
theorem d_cTokens_skipWord_21 : decode prog_9_method_9_code 21 = .ok (.iconst 0, 1) := by decide +kernel
theorem d_cTokens_skipWord_22 : decode prog_9_method_9_code 22 = .ok (.istore_n 2, 1) := by decide +kernel
theorem d_cTokens_skipWord_23 : decode prog_9_method_9_code 23 = .ok (.iload_n 2, 1) := by decide +kernel
theorem d_cTokens_skipWord_24 : decode prog_9_method_9_code 24 = .ok (.ifCond .eq 7, 3) := by decide +kernel
theorem d_cTokens_skipWord_27 : decode prog_9_method_9_code 27 = .ok (.aload_n 0, 1) := by decide +kernel
theorem d_cTokens_skipWord_28 : decode prog_9_method_9_code 28 = .ok (.invokevirtual 58, 3) := by decide +kernel
theorem d_cTokens_skipWord_31 : decode prog_9_method_9_code 31 = .ok (.iload_n 2, 1) := by decide +kernel
theorem d_cTokens_skipWord_32 : decode prog_9_method_9_code 32 = .ok (.ireturn, 1) := by decide +kernel
def cTokens_skipWord_J22 (s0_22 : Bool) (S_22 : CS) : Option (CS × Bool) := (if s0_22 = true then ((cTokens_advance S_22).bind fun q28 => some (q28, s0_22)) else some (S_22, s0_22))
def cTokens_skipWord (x1 : Nat) (S : CS) : Option (CS × Bool) := (if inbd (gI S 3 4) 481 = true then (if (gL S 6 (txN (gI S 3 4))) = (wC x1) then cTokens_skipWord_J22 true S else cTokens_skipWord_J22 false S) else none)
set_option maxHeartbeats 4000000 in
set_option maxRecDepth 100000 in
theorem M_cTokens_skipWord {l : Launch} {D : va_G} {cA : Nat → ClassId} {b : Nat} {ad : Nat → Nat} {x1 : Nat} {S : CS} {T : MS × (Nat → Int64)} {rr : (CS × Bool)} (hk1 : x1 < 15) (h : cTokens_skipWord x1 S = some rr) : Met l y_cTokens_skipWord (Cond.code y_cTokens_skipWord prog_9_method_9_code 3 (Option.some Jvm.ClassFile.FieldType.boolean) :: TW) { frames := 1, cells := 0, slots := 0, locals := 20 } (va_Pc [.ref (b + 3), .ref (ad x1)] (Rp D cA b ad (S, T))) (Qr D cA b ad (rr.1, T) (some (.int (bI rr.2)))) 0 0 (Ab b) := by
  refine Ct_of (by decide) (Nat.le_of_ble_eq_true rfl) ?_
  intro p e R s m args below meth c ls Q H locs hR hQ hx hb hts hown hml hr hlk hC hX hS hl
  have hRf : R.frames = 1 := by rw [hR]
  have hRl : R.locals = 20 := by rw [hR]
  have hown : s.vm.findClass "TypeGuard$Tokens" = some m.cls := hown
  have hl : lv_has ls 3 [(0, .ref (b + 3)), (1, .ref (ad x1))] := hl
  rw [cTokens_skipWord] at h
  refine lv_aload_n hx hb d_cTokens_skipWord_0 rfl (lv_at hl 0 rfl) ?_
  refine c_get_3_2 hx hb hts hown hC hX (by rfl) (hts _ t_49) d_cTokens_skipWord_1 ?_
  refine lv_aload_n hx hb d_cTokens_skipWord_4 rfl (lv_at hl 0 rfl) ?_
  refine c_get_3_4 hx hb hts hown hC hX (by rfl) (hts _ t_51) d_cTokens_skipWord_5 ?_
  by_cases hg8 : inbd (gI S 3 4) 481 = true
  rotate_left; · rw [if_neg hg8] at h; cases h
  rw [if_pos hg8] at h
  refine c_ald_6 (k := 6) hx hb hC hX (by rfl) hg8 d_cTokens_skipWord_8 ?_
  refine lv_aload_n hx hb d_cTokens_skipWord_9 rfl (lv_at hl 1 rfl) ?_
  refine st_codeN hx hb hC hS hown hk1 (va_Nw.use rfl (hC.2.1 _ t_1395)) d_cTokens_skipWord_10 ?_
  have J22 : ∀ (s0_22 : Bool) (H : Heap) (locs : List Loc) (ls : Array Slot), hp D cA b ad (S, T) H → va_S (Ab b) s.heap H locs → lv_has ls 3 [(0, .ref (b + 3))] → cTokens_skipWord_J22 s0_22 S = some rr → W p l e R s m args below meth c H locs 0 0 Q (F0 m 22 ls [.int (bI s0_22)]) := by
    intro s0_22 H locs ls  hX hS hl h
    rw [cTokens_skipWord_J22] at h
    refine lv_istore_n (lv' := [(2, .int (bI s0_22)), (0, .ref (b + 3))]) hx hb d_cTokens_skipWord_22 rfl hl (by decide) rfl (fun ls hl => ?_)
    refine lv_iload_n hx hb d_cTokens_skipWord_23 rfl (lv_at hl 0 rfl) ?_
    refine lz_ifeq hx hb d_cTokens_skipWord_24 (tgt := 31) (by decide) (fun hc => ?_) (fun hc => ?_)
    · rw [if_neg hc] at h
      refine lv_iload_n hx hb d_cTokens_skipWord_31 rfl (lv_at hl 0 rfl) ?_
      obtain rfl := Option.some.inj h
      exact rt_z hQ hx hb hr hX hS hlk d_cTokens_skipWord_32
    · rw [if_pos hc] at h
      refine lv_aload_n hx hb d_cTokens_skipWord_27 rfl (lv_at hl 1 rfl) ?_
      obtain ⟨q28, hc28, h⟩ := Option.bind_eq_some_iff.mp h
      refine ck_V (As := []) (rest := []) (st1 := []) (M_cTokens_advance  hc28) t_604 t_592 t_593 t_594 t_3 hx hb hts hown hC hX hS (hrc_c3 hC hX (by rfl)) hml hl.1 ⟨by rw [hRf]; decide, by rw [hRl]; decide⟩ ⟨rfl, rfl⟩ (n := 0) (by decide +kernel) rfl rfl rfl (lv_room (Nat.le_of_ble_eq_true rfl)) d_cTokens_skipWord_28 (fun H locs hX hS => ?_)
      refine lv_iload_n hx hb d_cTokens_skipWord_31 rfl (lv_at hl 0 rfl) ?_
      obtain rfl := Option.some.inj h
      exact rt_z hQ hx hb hr hX hS hlk d_cTokens_skipWord_32
  refine lx_ifne hx hb d_cTokens_skipWord_13 d_cTokens_skipWord_14 (tgt := 21) (by decide) (fun hc => ?_) (fun hc => ?_)
  · rw [if_neg hc] at h
    refine lv_iconst (v := 0) hx hb d_cTokens_skipWord_21 (by decide) ?_
    exact J22 false H locs ls  hX hS (lv_sub hl [0] rfl) h
  · rw [if_pos hc] at h
    refine lv_iconst (v := 1) hx hb d_cTokens_skipWord_17 (by decide) ?_
    refine lv_goto hx hb d_cTokens_skipWord_18 (tgt := 22) (by decide) ?_
    exact J22 true H locs ls  hX hS (lv_sub hl [0] rfl) h
abbrev y_cReader_expect : MethodName := ({ cls := "TypeGuard$Reader", name := "expect", desc := "(C)Z" } : Jvm.MethodName)
theorem d_cReader_expect_0 : decode prog_7_method_22_code 0 = .ok (.aload_n 0, 1) := by decide +kernel
theorem d_cReader_expect_1 : decode prog_7_method_22_code 1 = .ok (.getfield 12, 3) := by decide +kernel
theorem d_cReader_expect_4 : decode prog_7_method_22_code 4 = .ok (.iload_n 1, 1) := by decide +kernel
theorem d_cReader_expect_5 : decode prog_7_method_22_code 5 = .ok (.invokevirtual 170, 3) := by decide +kernel
theorem d_cReader_expect_8 : decode prog_7_method_22_code 8 = .ok (.ifCond .ne 11, 3) := by decide +kernel
theorem d_cReader_expect_11 : decode prog_7_method_22_code 11 = .ok (.aload_n 0, 1) := by decide +kernel
theorem d_cReader_expect_12 : decode prog_7_method_22_code 12 = .ok (.iconst 1, 1) := by decide +kernel
theorem d_cReader_expect_13 : decode prog_7_method_22_code 13 = .ok (.invokevirtual 125, 3) := by decide +kernel
theorem d_cReader_expect_16 : decode prog_7_method_22_code 16 = .ok (.ifCond .eq 7, 3) := by decide +kernel
theorem d_cReader_expect_19 : decode prog_7_method_22_code 19 = .ok (.iconst 1, 1) := by decide +kernel
theorem d_cReader_expect_20 : decode prog_7_method_22_code 20 = .ok (.goto 4, 3) := by decide +kernel
theorem d_cReader_expect_23 : decode prog_7_method_22_code 23 = .ok (.iconst 0, 1) := by decide +kernel
theorem d_cReader_expect_24 : decode prog_7_method_22_code 24 = .ok (.ireturn, 1) := by decide +kernel
def cReader_expect (x1 : Int32) (S : CS) : Option (CS × Bool) := ((cTokens_skip x1 S).bind fun q5 => (if q5.2 = true then some (q5.1, true) else ((cReader_refuse 1 q5.1).bind fun q13 => (if q13.2 = true then some (q13.1, true) else some (q13.1, false)))))
set_option maxHeartbeats 4000000 in
set_option maxRecDepth 100000 in
theorem M_cReader_expect {l : Launch} {D : va_G} {cA : Nat → ClassId} {b : Nat} {ad : Nat → Nat} {x1 : Int32} {S : CS} {T : MS × (Nat → Int64)} {rr : (CS × Bool)}  (h : cReader_expect x1 S = some rr) : Met l y_cReader_expect (Cond.code y_cReader_expect prog_7_method_22_code 2 (Option.some Jvm.ClassFile.FieldType.boolean) :: TW) { frames := 2, cells := 0, slots := 0, locals := 43 } (va_Pc [.ref (b + 2), .int x1] (Rp D cA b ad (S, T))) (Qr D cA b ad (rr.1, T) (some (.int (bI rr.2)))) 0 0 (Ab b) := by
  refine Ct_of (by decide) (Nat.le_of_ble_eq_true rfl) ?_
  intro p e R s m args below meth c ls Q H locs hR hQ hx hb hts hown hml hr hlk hC hX hS hl
  have hRf : R.frames = 2 := by rw [hR]
  have hRl : R.locals = 43 := by rw [hR]
  have hown : s.vm.findClass "TypeGuard$Reader" = some m.cls := hown
  have hl : lv_has ls 2 [(0, .ref (b + 2)), (1, .int x1)] := hl
  rw [cReader_expect] at h
  refine lv_aload_n hx hb d_cReader_expect_0 rfl (lv_at hl 0 rfl) ?_
  refine c_get_2_0 hx hb hts hown hC hX (by rfl) (hts _ t_227) d_cReader_expect_1 ?_
  refine lv_iload_n hx hb d_cReader_expect_4 rfl (lv_at hl 1 rfl) ?_
  obtain ⟨q5, hc5, h⟩ := Option.bind_eq_some_iff.mp h
  refine ck_V (As := [.int x1]) (rest := []) (st1 := [.int (bI q5.2)]) (M_cTokens_skip  hc5) t_599 t_600 t_601 t_602 t_3 hx hb hts hown hC hX hS (hrc_c3 hC hX (by rfl)) hml hl.1 ⟨by rw [hRf]; decide, by rw [hRl]; decide⟩ ⟨rfl, rfl⟩ (n := 1) (by decide +kernel) rfl rfl rfl (lv_room (Nat.le_of_ble_eq_true rfl)) d_cReader_expect_5 (fun H locs hX hS => ?_)
  refine lz_ifne hx hb d_cReader_expect_8 (tgt := 19) (by decide) (fun hc => ?_) (fun hc => ?_)
  · rw [if_pos hc] at h
    refine lv_iconst (v := 1) hx hb d_cReader_expect_19 (by decide) ?_
    refine lv_goto hx hb d_cReader_expect_20 (tgt := 24) (by decide) ?_
    obtain rfl := Option.some.inj h
    exact rt_zt hQ hx hb hr hX hS hlk d_cReader_expect_24
  · rw [if_neg hc] at h
    refine lv_aload_n hx hb d_cReader_expect_11 rfl (lv_at hl 0 rfl) ?_
    refine lv_iconst (v := 1) hx hb d_cReader_expect_12 (by decide) ?_
    obtain ⟨q13, hc13, h⟩ := Option.bind_eq_some_iff.mp h
    refine ck_V (As := [.int 1]) (rest := []) (st1 := [.int (bI q13.2)]) (M_cReader_refuse  hc13) t_575 t_577 p_8 t_578 t_2 hx hb hts hown hC hX hS (hrc_c2 hC hX (by rfl)) hml hl.1 ⟨by rw [hRf]; decide, by rw [hRl]; decide⟩ ⟨rfl, rfl⟩ (n := 1) (by decide +kernel) rfl rfl rfl (lv_room (Nat.le_of_ble_eq_true rfl)) d_cReader_expect_13 (fun H locs hX hS => ?_)
    refine lz_ifeq hx hb d_cReader_expect_16 (tgt := 23) (by decide) (fun hc => ?_) (fun hc => ?_)
    · rw [if_neg hc] at h
      refine lv_iconst (v := 0) hx hb d_cReader_expect_23 (by decide) ?_
      obtain rfl := Option.some.inj h
      exact rt_zf hQ hx hb hr hX hS hlk d_cReader_expect_24
    · rw [if_pos hc] at h
      refine lv_iconst (v := 1) hx hb d_cReader_expect_19 (by decide) ?_
      refine lv_goto hx hb d_cReader_expect_20 (tgt := 24) (by decide) ?_
      obtain rfl := Option.some.inj h
      exact rt_zt hQ hx hb hr hX hS hlk d_cReader_expect_24
abbrev y_cReader_numberHere : MethodName := ({ cls := "TypeGuard$Reader", name := "numberHere", desc := "(LTypeGuard$Names;)I" } : Jvm.MethodName)
theorem d_cReader_numberHere_0 : decode prog_7_method_24_code 0 = .ok (.aload_n 1, 1) := by decide +kernel
theorem d_cReader_numberHere_1 : decode prog_7_method_24_code 1 = .ok (.aload_n 0, 1) := by decide +kernel
theorem d_cReader_numberHere_2 : decode prog_7_method_24_code 2 = .ok (.getfield 12, 3) := by decide +kernel
theorem d_cReader_numberHere_5 : decode prog_7_method_24_code 5 = .ok (.invokevirtual 136, 3) := by decide +kernel
theorem d_cReader_numberHere_8 : decode prog_7_method_24_code 8 = .ok (.invokevirtual 160, 3) := by decide +kernel
theorem d_cReader_numberHere_11 : decode prog_7_method_24_code 11 = .ok (.istore_n 2, 1) := by decide +kernel
theorem d_cReader_numberHere_12 : decode prog_7_method_24_code 12 = .ok (.iload_n 2, 1) := by decide +kernel
theorem d_cReader_numberHere_13 : decode prog_7_method_24_code 13 = .ok (.iconst (-1), 1) := by decide +kernel
theorem d_cReader_numberHere_14 : decode prog_7_method_24_code 14 = .ok (.if_icmp .ne 28, 3) := by decide +kernel
theorem d_cReader_numberHere_17 : decode prog_7_method_24_code 17 = .ok (.aload_n 0, 1) := by decide +kernel
theorem d_cReader_numberHere_18 : decode prog_7_method_24_code 18 = .ok (.aload_n 0, 1) := by decide +kernel
theorem d_cReader_numberHere_19 : decode prog_7_method_24_code 19 = .ok (.getfield 12, 3) := by decide +kernel
theorem d_cReader_numberHere_22 : decode prog_7_method_24_code 22 = .ok (.bipush 97, 2) := by decide +kernel
theorem d_cReader_numberHere_24 : decode prog_7_method_24_code 24 = .ok (.invokevirtual 59, 3) := by decide +kernel
theorem d_cReader_numberHere_27 : decode prog_7_method_24_code 27 = .ok (.ifCond .eq 7, 3) := by decide +kernel
theorem d_cReader_numberHere_30 : decode prog_7_method_24_code 30 = .ok (.iconst 2, 1) := by decide +kernel
theorem d_cReader_numberHere_31 : decode prog_7_method_24_code 31 = .ok (.goto 4, 3) := by decide +kernel
theorem d_cReader_numberHere_34 : decode prog_7_method_24_code 34 = .ok (.iconst 1, 1) := by decide +kernel
theorem d_cReader_numberHere_35 : decode prog_7_method_24_code 35 = .ok (.invokevirtual 125, 3) := by decide +kernel
theorem d_cReader_numberHere_38 : decode prog_7_method_24_code 38 = .ok (.pop, 1) := by decide +kernel
theorem d_cReader_numberHere_39 : decode prog_7_method_24_code 39 = .ok (.goto 10, 3) := by decide +kernel
theorem d_cReader_numberHere_42 : decode prog_7_method_24_code 42 = .ok (.aload_n 0, 1) := by decide +kernel
theorem d_cReader_numberHere_43 : decode prog_7_method_24_code 43 = .ok (.getfield 12, 3) := by decide +kernel
theorem d_cReader_numberHere_46 : decode prog_7_method_24_code 46 = .ok (.invokevirtual 129, 3) := by decide +kernel
theorem d_cReader_numberHere_49 : decode prog_7_method_24_code 49 = .ok (.iload_n 2, 1) := by decide +kernel
theorem d_cReader_numberHere_50 : decode prog_7_method_24_code 50 = .ok (.ireturn, 1) := by decide +kernel
def cReader_numberHere_J35 (v2_35 : Int32) (s0_35 : Int32) (S_35 : CS) : Option (CS × Int32) := ((cReader_refuse s0_35 S_35).bind fun q35 => some (q35.1, v2_35))
def cReader_numberHere (x1 : Nat) (S : CS) : Option (CS × Int32) := ((cTokens_name S).bind fun q5 => ((cNames_numberOf x1 q5 S).bind fun q8 => (if q8 = (-1) then ((cTokens_is 97 S).bind fun q24 => (if q24 = true then cReader_numberHere_J35 q8 2 S else cReader_numberHere_J35 q8 1 S)) else ((cTokens_advance S).bind fun q46 => some (q46, q8)))))
set_option maxHeartbeats 4000000 in
set_option maxRecDepth 100000 in
theorem M_cReader_numberHere {l : Launch} {D : va_G} {cA : Nat → ClassId} {b : Nat} {ad : Nat → Nat} {x1 : Nat} {S : CS} {T : MS × (Nat → Int64)} {rr : (CS × Int32)} (hk1 : kd x1 = 8) (h : cReader_numberHere x1 S = some rr) : Met l y_cReader_numberHere (Cond.code y_cReader_numberHere prog_7_method_24_code 3 (Option.some Jvm.ClassFile.FieldType.int) :: TW) { frames := 1, cells := 0, slots := 0, locals := 23 } (va_Pc [.ref (b + 2), .ref (b + x1)] (Rp D cA b ad (S, T))) (Qr D cA b ad (rr.1, T) (some (.int rr.2))) 0 0 (Ab b) := by
  refine Ct_of (by decide) (Nat.le_of_ble_eq_true rfl) ?_
  intro p e R s m args below meth c ls Q H locs hR hQ hx hb hts hown hml hr hlk hC hX hS hl
  have hRf : R.frames = 1 := by rw [hR]
  have hRl : R.locals = 23 := by rw [hR]
  have hown : s.vm.findClass "TypeGuard$Reader" = some m.cls := hown
  have hl : lv_has ls 3 [(0, .ref (b + 2)), (1, .ref (b + x1))] := hl
  rw [cReader_numberHere] at h
  refine lv_aload_n hx hb d_cReader_numberHere_0 rfl (lv_at hl 1 rfl) ?_
  refine lv_aload_n hx hb d_cReader_numberHere_1 rfl (lv_at hl 0 rfl) ?_
  refine c_get_2_0 hx hb hts hown hC hX (by rfl) (hts _ t_227) d_cReader_numberHere_2 ?_
  obtain ⟨q5, hc5, h⟩ := Option.bind_eq_some_iff.mp h
  refine ck_V (As := []) (rest := [.ref (b + x1)]) (st1 := [.long q5, .ref (b + x1)]) (M_cTokens_name  hc5) t_609 t_610 t_611 t_612 t_3 hx hb hts hown hC hX hS (hrc_c3 hC hX (by rfl)) hml hl.1 ⟨by rw [hRf]; decide, by rw [hRl]; decide⟩ ⟨rfl, rfl⟩ (n := 0) (by decide +kernel) rfl rfl rfl (lv_room (Nat.le_of_ble_eq_true rfl)) d_cReader_numberHere_5 (fun H locs hX hS => ?_)
  obtain ⟨q8, hc8, h⟩ := Option.bind_eq_some_iff.mp h
  refine ck_V (As := [.long q5]) (rest := []) (st1 := [.int q8]) (M_cNames_numberOf hk1 hc8) t_613 t_386 t_387 t_388 t_5 hx hb hts hown hC hX hS (hrc_c8 hC hX hk1) hml hl.1 ⟨by rw [hRf]; decide, by rw [hRl]; decide⟩ ⟨rfl, rfl⟩ (n := 1) (by decide +kernel) rfl rfl rfl (lv_room (Nat.le_of_ble_eq_true rfl)) d_cReader_numberHere_8 (fun H locs hX hS => ?_)
  refine lv_istore_n (lv' := [(2, .int q8), (0, .ref (b + 2)), (1, .ref (b + x1))]) hx hb d_cReader_numberHere_11 rfl hl (by decide) rfl (fun ls hl => ?_)
  refine lv_iload_n hx hb d_cReader_numberHere_12 rfl (lv_at hl 0 rfl) ?_
  refine lv_iconst (v := (-1)) hx hb d_cReader_numberHere_13 (by decide) ?_
  refine lv_icmp_ne hx hb d_cReader_numberHere_14 (tgt := 42) (by decide) (fun hc => ?_) (fun hc => ?_)
  · rw [if_neg hc] at h
    refine lv_aload_n hx hb d_cReader_numberHere_42 rfl (lv_at hl 1 rfl) ?_
    refine c_get_2_0 hx hb hts hown hC hX (by rfl) (hts _ t_227) d_cReader_numberHere_43 ?_
    obtain ⟨q46, hc46, h⟩ := Option.bind_eq_some_iff.mp h
    refine ck_V (As := []) (rest := []) (st1 := []) (M_cTokens_advance  hc46) t_591 t_592 t_593 t_594 t_3 hx hb hts hown hC hX hS (hrc_c3 hC hX (by rfl)) hml hl.1 ⟨by rw [hRf]; decide, by rw [hRl]; decide⟩ ⟨rfl, rfl⟩ (n := 0) (by decide +kernel) rfl rfl rfl (lv_room (Nat.le_of_ble_eq_true rfl)) d_cReader_numberHere_46 (fun H locs hX hS => ?_)
    refine lv_iload_n hx hb d_cReader_numberHere_49 rfl (lv_at hl 0 rfl) ?_
    obtain rfl := Option.some.inj h
    exact rt_i hQ hx hb hr hX hS hlk d_cReader_numberHere_50
  · rw [if_pos hc] at h
    refine lv_aload_n hx hb d_cReader_numberHere_17 rfl (lv_at hl 1 rfl) ?_
    refine lv_aload_n hx hb d_cReader_numberHere_18 rfl (lv_at hl 1 rfl) ?_
    refine c_get_2_0 hx hb hts hown hC hX (by rfl) (hts _ t_227) d_cReader_numberHere_19 ?_
    refine lv_bipush (v := 97) hx hb d_cReader_numberHere_22 (by decide) ?_
    obtain ⟨q24, hc24, h⟩ := Option.bind_eq_some_iff.mp h
    refine ck_V (As := [.int 97]) (rest := [.ref (b + 2)]) (st1 := [.int (bI q24), .ref (b + 2)]) (M_cTokens_is  hc24) t_547 t_548 t_549 t_550 t_3 hx hb hts hown hC hX hS (hrc_c3 hC hX (by rfl)) hml hl.1 ⟨by rw [hRf]; decide, by rw [hRl]; decide⟩ ⟨rfl, rfl⟩ (n := 1) (by decide +kernel) rfl rfl rfl (lv_room (Nat.le_of_ble_eq_true rfl)) d_cReader_numberHere_24 (fun H locs hX hS => ?_)
    have J35 : ∀ (s0_35 : Int32) (H : Heap) (locs : List Loc) (ls : Array Slot), hp D cA b ad (S, T) H → va_S (Ab b) s.heap H locs → lv_has ls 3 [(2, .int q8)] → cReader_numberHere_J35 q8 s0_35 S = some rr → W p l e R s m args below meth c H locs 0 0 Q (F0 m 35 ls [.int s0_35, .ref (b + 2)]) := by
      intro s0_35 H locs ls  hX hS hl h
      rw [cReader_numberHere_J35] at h
      obtain ⟨q35, hc35, h⟩ := Option.bind_eq_some_iff.mp h
      refine ck_V (As := [.int s0_35]) (rest := []) (st1 := [.int (bI q35.2)]) (M_cReader_refuse  hc35) t_575 t_577 p_8 t_578 t_2 hx hb hts hown hC hX hS (hrc_c2 hC hX (by rfl)) hml hl.1 ⟨by rw [hRf]; decide, by rw [hRl]; decide⟩ ⟨rfl, rfl⟩ (n := 1) (by decide +kernel) rfl rfl rfl (lv_room (Nat.le_of_ble_eq_true rfl)) d_cReader_numberHere_35 (fun H locs hX hS => ?_)
      refine lv_pop hx hb d_cReader_numberHere_38 rfl ?_
      refine lv_goto hx hb d_cReader_numberHere_39 (tgt := 49) (by decide) ?_
      refine lv_iload_n hx hb d_cReader_numberHere_49 rfl (lv_at hl 0 rfl) ?_
      obtain rfl := Option.some.inj h
      exact rt_i hQ hx hb hr hX hS hlk d_cReader_numberHere_50
    refine lz_ifeq hx hb d_cReader_numberHere_27 (tgt := 34) (by decide) (fun hc => ?_) (fun hc => ?_)
    · rw [if_neg hc] at h
      refine lv_iconst (v := 1) hx hb d_cReader_numberHere_34 (by decide) ?_
      exact J35 1 H locs ls  hX hS (lv_sub hl [0] rfl) h
    · rw [if_pos hc] at h
      refine lv_iconst (v := 2) hx hb d_cReader_numberHere_30 (by decide) ?_
      refine lv_goto hx hb d_cReader_numberHere_31 (tgt := 35) (by decide) ?_
      exact J35 2 H locs ls  hX hS (lv_sub hl [0] rfl) h
abbrev y_cReader_readMove : MethodName := ({ cls := "TypeGuard$Reader", name := "readMove", desc := "(LTypeGuard$Rule;)Z" } : Jvm.MethodName)
theorem d_cReader_readMove_0 : decode prog_7_method_15_code 0 = .ok (.aload_n 0, 1) := by decide +kernel
theorem d_cReader_readMove_1 : decode prog_7_method_15_code 1 = .ok (.aload_n 0, 1) := by decide +kernel
theorem d_cReader_readMove_2 : decode prog_7_method_15_code 2 = .ok (.getfield 21, 3) := by decide +kernel
theorem d_cReader_readMove_5 : decode prog_7_method_15_code 5 = .ok (.getfield 132, 3) := by decide +kernel
theorem d_cReader_readMove_8 : decode prog_7_method_15_code 8 = .ok (.invokevirtual 173, 3) := by decide +kernel
theorem d_cReader_readMove_11 : decode prog_7_method_15_code 11 = .ok (.istore_n 2, 1) := by decide +kernel
theorem d_cReader_readMove_12 : decode prog_7_method_15_code 12 = .ok (.iload_n 2, 1) := by decide +kernel
theorem d_cReader_readMove_13 : decode prog_7_method_15_code 13 = .ok (.iconst (-1), 1) := by decide +kernel
theorem d_cReader_readMove_14 : decode prog_7_method_15_code 14 = .ok (.if_icmp .ne 5, 3) := by decide +kernel
theorem d_cReader_readMove_17 : decode prog_7_method_15_code 17 = .ok (.iconst 0, 1) := by decide +kernel
theorem d_cReader_readMove_18 : decode prog_7_method_15_code 18 = .ok (.ireturn, 1) := by decide +kernel
theorem d_cReader_readMove_19 : decode prog_7_method_15_code 19 = .ok (.aload_n 1, 1) := by decide +kernel
theorem d_cReader_readMove_20 : decode prog_7_method_15_code 20 = .ok (.iconst 1, 1) := by decide +kernel
theorem d_cReader_readMove_21 : decode prog_7_method_15_code 21 = .ok (.iload_n 2, 1) := by decide +kernel
theorem d_cReader_readMove_22 : decode prog_7_method_15_code 22 = .ok (.ishl, 1) := by decide +kernel
theorem d_cReader_readMove_23 : decode prog_7_method_15_code 23 = .ok (.putfield 237, 3) := by decide +kernel
theorem d_cReader_readMove_26 : decode prog_7_method_15_code 26 = .ok (.aload_n 1, 1) := by decide +kernel
theorem d_cReader_readMove_27 : decode prog_7_method_15_code 27 = .ok (.aload_n 0, 1) := by decide +kernel
theorem d_cReader_readMove_28 : decode prog_7_method_15_code 28 = .ok (.aload_n 0, 1) := by decide +kernel
theorem d_cReader_readMove_29 : decode prog_7_method_15_code 29 = .ok (.getfield 21, 3) := by decide +kernel
theorem d_cReader_readMove_32 : decode prog_7_method_15_code 32 = .ok (.getfield 167, 3) := by decide +kernel
theorem d_cReader_readMove_35 : decode prog_7_method_15_code 35 = .ok (.invokevirtual 173, 3) := by decide +kernel
theorem d_cReader_readMove_38 : decode prog_7_method_15_code 38 = .ok (.putfield 239, 3) := by decide +kernel
theorem d_cReader_readMove_41 : decode prog_7_method_15_code 41 = .ok (.aload_n 1, 1) := by decide +kernel
theorem d_cReader_readMove_42 : decode prog_7_method_15_code 42 = .ok (.getfield 239, 3) := by decide +kernel
theorem d_cReader_readMove_45 : decode prog_7_method_15_code 45 = .ok (.iconst (-1), 1) := by decide +kernel
theorem d_cReader_readMove_46 : decode prog_7_method_15_code 46 = .ok (.if_icmp .eq 7, 3) := by decide +kernel
theorem d_cReader_readMove_49 : decode prog_7_method_15_code 49 = .ok (.iconst 1, 1) := by decide +kernel
theorem d_cReader_readMove_50 : decode prog_7_method_15_code 50 = .ok (.goto 4, 3) := by decide +kernel
theorem d_cReader_readMove_53 : decode prog_7_method_15_code 53 = .ok (.iconst 0, 1) := by decide +kernel
theorem d_cReader_readMove_54 : decode prog_7_method_15_code 54 = .ok (.ireturn, 1) := by decide +kernel
def cReader_readMove (x1 : Nat) (S : CS) : Option (CS × Bool) := (bd (gR S 2 1) fun r2 => (if kd r2 = 7 then ((cReader_numberHere (r2 + 5) S).bind fun q8 => (if q8.2 = (-1) then some (q8.1, false) else (bd (pI q8.1 x1 9 (1 <<< (q8.2 &&& 31))) fun S23 => (bd (gR S23 2 1) fun r29 => (if kd r29 = 7 then ((cReader_numberHere (r29 + 1) S23).bind fun q35 => (bd (pI q35.1 x1 11 q35.2) fun S38 => (if (gI S38 x1 11) = (-1) then some (S38, false) else some (S38, true)))) else none))))) else none))
set_option maxHeartbeats 4000000 in
set_option maxRecDepth 100000 in
theorem M_cReader_readMove {l : Launch} {D : va_G} {cA : Nat → ClassId} {b : Nat} {ad : Nat → Nat} {x1 : Nat} {S : CS} {T : MS × (Nat → Int64)} {rr : (CS × Bool)} (hk1 : kd x1 = 14) (h : cReader_readMove x1 S = some rr) : Met l y_cReader_readMove (Cond.code y_cReader_readMove prog_7_method_15_code 3 (Option.some Jvm.ClassFile.FieldType.boolean) :: TW) { frames := 2, cells := 0, slots := 0, locals := 45 } (va_Pc [.ref (b + 2), .ref (b + x1)] (Rp D cA b ad (S, T))) (Qr D cA b ad (rr.1, T) (some (.int (bI rr.2)))) 0 0 (Ab b) := by
  refine Ct_of (by decide) (Nat.le_of_ble_eq_true rfl) ?_
  intro p e R s m args below meth c ls Q H locs hR hQ hx hb hts hown hml hr hlk hC hX hS hl
  have hRf : R.frames = 2 := by rw [hR]
  have hRl : R.locals = 45 := by rw [hR]
  have hown : s.vm.findClass "TypeGuard$Reader" = some m.cls := hown
  have hl : lv_has ls 3 [(0, .ref (b + 2)), (1, .ref (b + x1))] := hl
  rw [cReader_readMove] at h
  refine lv_aload_n hx hb d_cReader_readMove_0 rfl (lv_at hl 0 rfl) ?_
  refine lv_aload_n hx hb d_cReader_readMove_1 rfl (lv_at hl 0 rfl) ?_
  refine c_get_2_1 hx hb hts hown hC hX (by rfl) (hts _ t_228) d_cReader_readMove_2 ?_
  obtain ⟨r2, e2, h⟩ := bd_some h
  refine lt_R e2 ?_
  by_cases hkr2 : kd r2 = 7
  rotate_left; · rw [if_neg hkr2] at h; cases h
  rw [if_pos hkr2] at h
  refine c_get_7_2N (k := r2) hx hb hts hown hC hX hkr2 (va_Nw.use rfl (hC.2.1 _ t_192)) d_cReader_readMove_5 ?_
  obtain ⟨q8, hc8, h⟩ := Option.bind_eq_some_iff.mp h
  refine ck_V (As := [.ref (b + (r2 + 5))]) (rest := []) (st1 := [.int q8.2]) (M_cReader_numberHere (kx_7_5 hkr2) hc8) t_634 t_636 p_13 t_637 t_2 hx hb hts hown hC hX hS (hrc_c2 hC hX (by rfl)) hml hl.1 ⟨by rw [hRf]; decide, by rw [hRl]; decide⟩ ⟨rfl, rfl⟩ (n := 1) (by decide +kernel) rfl rfl rfl (lv_room (Nat.le_of_ble_eq_true rfl)) d_cReader_readMove_8 (fun H locs hX hS => ?_)
  refine lv_istore_n (lv' := [(2, .int q8.2), (0, .ref (b + 2)), (1, .ref (b + x1))]) hx hb d_cReader_readMove_11 rfl hl (by decide) rfl (fun ls hl => ?_)
  refine lv_iload_n hx hb d_cReader_readMove_12 rfl (lv_at hl 0 rfl) ?_
  refine lv_iconst (v := (-1)) hx hb d_cReader_readMove_13 (by decide) ?_
  refine lv_icmp_ne hx hb d_cReader_readMove_14 (tgt := 19) (by decide) (fun hc => ?_) (fun hc => ?_)
  · rw [if_neg hc] at h
    refine lv_aload_n hx hb d_cReader_readMove_19 rfl (lv_at hl 2 rfl) ?_
    refine lv_iconst (v := 1) hx hb d_cReader_readMove_20 (by decide) ?_
    refine lv_iload_n hx hb d_cReader_readMove_21 rfl (lv_at hl 0 rfl) ?_
    refine lv_ishl hx hb d_cReader_readMove_22 ?_
    refine c_put_14_9N (k := x1) (v := (1 <<< (q8.2 &&& 31))) hx hb hts hown hC hX hS hk1 (va_Nw.use rfl (hC.2.1 _ t_153)) d_cReader_readMove_23 (fun H locs hX hS => ?_)
    obtain ⟨S23, e23, h⟩ := bd_some h
    rw [← e23] at hX
    refine lv_aload_n hx hb d_cReader_readMove_26 rfl (lv_at hl 2 rfl) ?_
    refine lv_aload_n hx hb d_cReader_readMove_27 rfl (lv_at hl 1 rfl) ?_
    refine lv_aload_n hx hb d_cReader_readMove_28 rfl (lv_at hl 1 rfl) ?_
    refine c_get_2_1 hx hb hts hown hC hX (by rfl) (hts _ t_228) d_cReader_readMove_29 ?_
    obtain ⟨r29, e29, h⟩ := bd_some h
    refine lt_R e29 ?_
    by_cases hkr29 : kd r29 = 7
    rotate_left; · rw [if_neg hkr29] at h; cases h
    rw [if_pos hkr29] at h
    refine c_get_7_0N (k := r29) hx hb hts hown hC hX hkr29 (va_Nw.use rfl (hC.2.1 _ t_187)) d_cReader_readMove_32 ?_
    obtain ⟨q35, hc35, h⟩ := Option.bind_eq_some_iff.mp h
    refine ck_V (As := [.ref (b + (r29 + 1))]) (rest := [.ref (b + x1)]) (st1 := [.int q35.2, .ref (b + x1)]) (M_cReader_numberHere (kx_7_1 hkr29) hc35) t_634 t_636 p_13 t_637 t_2 hx hb hts hown hC hX hS (hrc_c2 hC hX (by rfl)) hml hl.1 ⟨by rw [hRf]; decide, by rw [hRl]; decide⟩ ⟨rfl, rfl⟩ (n := 1) (by decide +kernel) rfl rfl rfl (lv_room (Nat.le_of_ble_eq_true rfl)) d_cReader_readMove_35 (fun H locs hX hS => ?_)
    refine c_put_14_11N (k := x1) (v := q35.2) hx hb hts hown hC hX hS hk1 (va_Nw.use rfl (hC.2.1 _ t_159)) d_cReader_readMove_38 (fun H locs hX hS => ?_)
    obtain ⟨S38, e38, h⟩ := bd_some h
    rw [← e38] at hX
    refine lv_aload_n hx hb d_cReader_readMove_41 rfl (lv_at hl 2 rfl) ?_
    refine c_get_14_11N (k := x1) hx hb hts hown hC hX hk1 (va_Nw.use rfl (hC.2.1 _ t_159)) d_cReader_readMove_42 ?_
    refine lv_iconst (v := (-1)) hx hb d_cReader_readMove_45 (by decide) ?_
    refine lv_icmp_eq hx hb d_cReader_readMove_46 (tgt := 53) (by decide) (fun hc => ?_) (fun hc => ?_)
    · rw [if_pos hc] at h
      refine lv_iconst (v := 0) hx hb d_cReader_readMove_53 (by decide) ?_
      obtain rfl := Option.some.inj h
      exact rt_zf hQ hx hb hr hX hS hlk d_cReader_readMove_54
    · rw [if_neg hc] at h
      refine lv_iconst (v := 1) hx hb d_cReader_readMove_49 (by decide) ?_
      refine lv_goto hx hb d_cReader_readMove_50 (tgt := 54) (by decide) ?_
      obtain rfl := Option.some.inj h
      exact rt_zt hQ hx hb hr hX hS hlk d_cReader_readMove_54
  · rw [if_pos hc] at h
    refine lv_iconst (v := 0) hx hb d_cReader_readMove_17 (by decide) ?_
    obtain rfl := Option.some.inj h
    exact rt_zf hQ hx hb hr hX hS hlk d_cReader_readMove_18
abbrev y_cReader_readClasses : MethodName := ({ cls := "TypeGuard$Reader", name := "readClasses", desc := "(LTypeGuard$Rule;)Z" } : Jvm.MethodName)
theorem d_cReader_readClasses_0 : decode prog_7_method_18_code 0 = .ok (.aload_n 0, 1) := by decide +kernel
theorem d_cReader_readClasses_1 : decode prog_7_method_18_code 1 = .ok (.getfield 12, 3) := by decide +kernel
theorem d_cReader_readClasses_4 : decode prog_7_method_18_code 4 = .ok (.bipush 123, 2) := by decide +kernel
theorem d_cReader_readClasses_6 : decode prog_7_method_18_code 6 = .ok (.invokevirtual 170, 3) := by decide +kernel
theorem d_cReader_readClasses_9 : decode prog_7_method_18_code 9 = .ok (.istore_n 2, 1) := by decide +kernel
theorem d_cReader_readClasses_10 : decode prog_7_method_18_code 10 = .ok (.iconst 1, 1) := by decide +kernel
theorem d_cReader_readClasses_11 : decode prog_7_method_18_code 11 = .ok (.istore_n 3, 1) := by decide +kernel
theorem d_cReader_readClasses_12 : decode prog_7_method_18_code 12 = .ok (.iconst 0, 1) := by decide +kernel
theorem d_cReader_readClasses_13 : decode prog_7_method_18_code 13 = .ok (.istore 4, 2) := by decide +kernel
theorem d_cReader_readClasses_15 : decode prog_7_method_18_code 15 = .ok (.iload_n 3, 1) := by decide +kernel
theorem d_cReader_readClasses_16 : decode prog_7_method_18_code 16 = .ok (.ifCond .eq 73, 3) := by decide +kernel
theorem d_cReader_readClasses_19 : decode prog_7_method_18_code 19 = .ok (.iload 4, 2) := by decide +kernel
theorem d_cReader_readClasses_21 : decode prog_7_method_18_code 21 = .ok (.sipush 480, 3) := by decide +kernel
theorem d_cReader_readClasses_24 : decode prog_7_method_18_code 24 = .ok (.if_icmp .ge 65, 3) := by decide +kernel
theorem d_cReader_readClasses_27 : decode prog_7_method_18_code 27 = .ok (.aload_n 0, 1) := by decide +kernel
theorem d_cReader_readClasses_28 : decode prog_7_method_18_code 28 = .ok (.aload_n 0, 1) := by decide +kernel
theorem d_cReader_readClasses_29 : decode prog_7_method_18_code 29 = .ok (.getfield 21, 3) := by decide +kernel
theorem d_cReader_readClasses_32 : decode prog_7_method_18_code 32 = .ok (.getfield 132, 3) := by decide +kernel
theorem d_cReader_readClasses_35 : decode prog_7_method_18_code 35 = .ok (.invokevirtual 173, 3) := by decide +kernel
theorem d_cReader_readClasses_38 : decode prog_7_method_18_code 38 = .ok (.istore 5, 2) := by decide +kernel
theorem d_cReader_readClasses_40 : decode prog_7_method_18_code 40 = .ok (.iload 5, 2) := by decide +kernel
theorem d_cReader_readClasses_42 : decode prog_7_method_18_code 42 = .ok (.iconst (-1), 1) := by decide +kernel
theorem d_cReader_readClasses_43 : decode prog_7_method_18_code 43 = .ok (.if_icmp .ne 5, 3) := by decide +kernel
theorem d_cReader_readClasses_46 : decode prog_7_method_18_code 46 = .ok (.iconst 0, 1) := by decide +kernel
theorem d_cReader_readClasses_47 : decode prog_7_method_18_code 47 = .ok (.ireturn, 1) := by decide +kernel
theorem d_cReader_readClasses_48 : decode prog_7_method_18_code 48 = .ok (.aload_n 1, 1) := by decide +kernel
theorem d_cReader_readClasses_49 : decode prog_7_method_18_code 49 = .ok (.dup, 1) := by decide +kernel
theorem d_cReader_readClasses_50 : decode prog_7_method_18_code 50 = .ok (.getfield 237, 3) := by decide +kernel
theorem d_cReader_readClasses_53 : decode prog_7_method_18_code 53 = .ok (.iconst 1, 1) := by decide +kernel
theorem d_cReader_readClasses_54 : decode prog_7_method_18_code 54 = .ok (.iload 5, 2) := by decide +kernel
theorem d_cReader_readClasses_56 : decode prog_7_method_18_code 56 = .ok (.ishl, 1) := by decide +kernel
theorem d_cReader_readClasses_57 : decode prog_7_method_18_code 57 = .ok (.ior, 1) := by decide +kernel
theorem d_cReader_readClasses_58 : decode prog_7_method_18_code 58 = .ok (.putfield 237, 3) := by decide +kernel
theorem d_cReader_readClasses_61 : decode prog_7_method_18_code 61 = .ok (.iload_n 2, 1) := by decide +kernel
theorem d_cReader_readClasses_62 : decode prog_7_method_18_code 62 = .ok (.ifCond .eq 19, 3) := by decide +kernel
theorem d_cReader_readClasses_65 : decode prog_7_method_18_code 65 = .ok (.aload_n 0, 1) := by decide +kernel
theorem d_cReader_readClasses_66 : decode prog_7_method_18_code 66 = .ok (.getfield 12, 3) := by decide +kernel
theorem d_cReader_readClasses_69 : decode prog_7_method_18_code 69 = .ok (.bipush 125, 2) := by decide +kernel
theorem d_cReader_readClasses_71 : decode prog_7_method_18_code 71 = .ok (.invokevirtual 170, 3) := by decide +kernel
theorem d_cReader_readClasses_74 : decode prog_7_method_18_code 74 = .ok (.ifCond .ne 7, 3) := by decide +kernel
theorem d_cReader_readClasses_77 : decode prog_7_method_18_code 77 = .ok (.iconst 1, 1) := by decide +kernel
theorem d_cReader_readClasses_78 : decode prog_7_method_18_code 78 = .ok (.goto 4, 3) := by decide +kernel
theorem d_cReader_readClasses_81 : decode prog_7_method_18_code 81 = .ok (.iconst 0, 1) := by decide +kernel
theorem d_cReader_readClasses_82 : decode prog_7_method_18_code 82 = .ok (.istore_n 3, 1) := by decide +kernel
theorem d_cReader_readClasses_83 : decode prog_7_method_18_code 83 = .ok (.iinc 4 1, 3) := by decide +kernel
theorem d_cReader_readClasses_86 : decode prog_7_method_18_code 86 = .ok (.goto (-71), 3) := by decide +kernel
theorem d_cReader_readClasses_89 : decode prog_7_method_18_code 89 = .ok (.iconst 1, 1) := by decide +kernel
theorem d_cReader_readClasses_90 : decode prog_7_method_18_code 90 = .ok (.ireturn, 1) := by decide +kernel
def cReader_readClasses_L15 (v1_15 : Nat) (v2_15 : Bool) : Nat → Bool → Int32 → CS → Option (CS × Bool)
  | 0, _, _, _ => none
  | n + 1, v3_15, v4_15, S_15 => (if v3_15 = true then (if 480 ≤ v4_15 then some (S_15, true) else (bd (gR S_15 2 1) fun r29 => (if kd r29 = 7 then ((cReader_numberHere (r29 + 5) S_15).bind fun q35 => (if q35.2 = (-1) then some (q35.1, false) else (bd (pI q35.1 v1_15 9 ((gI q35.1 v1_15 9) ||| (1 <<< (q35.2 &&& 31)))) fun S58 => (if v2_15 = true then ((cTokens_skip 125 S58).bind fun q71 => (if q71.2 = true then (bd ((v4_15 + 1)) fun a83 => (cReader_readClasses_L15 v1_15 v2_15 n) false a83 q71.1) else (bd ((v4_15 + 1)) fun a83 => (cReader_readClasses_L15 v1_15 v2_15 n) true a83 q71.1))) else (bd ((v4_15 + 1)) fun a83 => (cReader_readClasses_L15 v1_15 v2_15 n) false a83 S58))))) else none))) else some (S_15, true))
def cReader_readClasses (x1 : Nat) (S : CS) : Option (CS × Bool) := ((cTokens_skip 123 S).bind fun q6 => cReader_readClasses_L15 x1 q6.2 600 true 0 q6.1)
set_option maxHeartbeats 4000000 in
set_option maxRecDepth 100000 in
theorem M_cReader_readClasses {l : Launch} {D : va_G} {cA : Nat → ClassId} {b : Nat} {ad : Nat → Nat} {x1 : Nat} {S : CS} {T : MS × (Nat → Int64)} {rr : (CS × Bool)} (hk1 : kd x1 = 14) (h : cReader_readClasses x1 S = some rr) : Met l y_cReader_readClasses (Cond.code y_cReader_readClasses prog_7_method_18_code 6 (Option.some Jvm.ClassFile.FieldType.boolean) :: TW) { frames := 2, cells := 0, slots := 0, locals := 45 } (va_Pc [.ref (b + 2), .ref (b + x1)] (Rp D cA b ad (S, T))) (Qr D cA b ad (rr.1, T) (some (.int (bI rr.2)))) 0 0 (Ab b) := by
  refine Ct_of (by decide) (Nat.le_of_ble_eq_true rfl) ?_
  intro p e R s m args below meth c ls Q H locs hR hQ hx hb hts hown hml hr hlk hC hX hS hl
  have hRf : R.frames = 2 := by rw [hR]
  have hRl : R.locals = 45 := by rw [hR]
  have hown : s.vm.findClass "TypeGuard$Reader" = some m.cls := hown
  have hl : lv_has ls 6 [(0, .ref (b + 2)), (1, .ref (b + x1))] := hl
  rw [cReader_readClasses] at h
  refine lv_aload_n hx hb d_cReader_readClasses_0 rfl (lv_at hl 0 rfl) ?_
  refine c_get_2_0 hx hb hts hown hC hX (by rfl) (hts _ t_227) d_cReader_readClasses_1 ?_
  refine lv_bipush (v := 123) hx hb d_cReader_readClasses_4 (by decide) ?_
  obtain ⟨q6, hc6, h⟩ := Option.bind_eq_some_iff.mp h
  refine ck_V (As := [.int 123]) (rest := []) (st1 := [.int (bI q6.2)]) (M_cTokens_skip  hc6) t_599 t_600 t_601 t_602 t_3 hx hb hts hown hC hX hS (hrc_c3 hC hX (by rfl)) hml hl.1 ⟨by rw [hRf]; decide, by rw [hRl]; decide⟩ ⟨rfl, rfl⟩ (n := 1) (by decide +kernel) rfl rfl rfl (lv_room (Nat.le_of_ble_eq_true rfl)) d_cReader_readClasses_6 (fun H locs hX hS => ?_)
  refine lv_istore_n (lv' := [(2, .int (bI q6.2)), (0, .ref (b + 2)), (1, .ref (b + x1))]) hx hb d_cReader_readClasses_9 rfl hl (by decide) rfl (fun ls hl => ?_)
  refine lv_iconst (v := 1) hx hb d_cReader_readClasses_10 (by decide) ?_
  refine lv_istore_n (lv' := [(3, .int (bI true)), (2, .int (bI q6.2)), (0, .ref (b + 2)), (1, .ref (b + x1))]) hx hb d_cReader_readClasses_11 rfl hl (by decide) rfl (fun ls hl => ?_)
  refine lv_iconst (v := 0) hx hb d_cReader_readClasses_12 (by decide) ?_
  refine lv_istore (lv' := [(4, .int 0), (3, .int (bI true)), (2, .int (bI q6.2)), (0, .ref (b + 2)), (1, .ref (b + x1))]) hx hb d_cReader_readClasses_13 hl (by decide) rfl (fun ls hl => ?_)
  have L15 : ∀ (n15 : Nat) (v3_15 : Bool) (v4_15 : Int32) (S_15 : CS) (H : Heap) (locs : List Loc) (ls : Array Slot), hp D cA b ad (S_15, T) H → va_S (Ab b) s.heap H locs → lv_has ls 6 [(0, .ref (b + 2)), (1, .ref (b + x1)), (2, .int (bI q6.2)), (3, .int (bI v3_15)), (4, .int v4_15)] → cReader_readClasses_L15 x1 q6.2 n15 v3_15 v4_15 S_15 = some rr → W p l e R s m args below meth c H locs 0 0 Q (F0 m 15 ls []) := by
    intro n15; induction n15 with
    | zero => intro v3_15 v4_15 S_15 H locs ls  hX hS hl h; rw [cReader_readClasses_L15] at h; cases h
    | succ n15 ih15 =>
      intro v3_15 v4_15 S_15 H locs ls  hX hS hl h
      rw [cReader_readClasses_L15] at h
      refine lv_iload_n hx hb d_cReader_readClasses_15 rfl (lv_at hl 3 rfl) ?_
      refine lz_ifeq hx hb d_cReader_readClasses_16 (tgt := 89) (by decide) (fun hc => ?_) (fun hc => ?_)
      · rw [if_neg hc] at h
        refine lv_iconst (v := 1) hx hb d_cReader_readClasses_89 (by decide) ?_
        obtain rfl := Option.some.inj h
        exact rt_zt hQ hx hb hr hX hS hlk d_cReader_readClasses_90
      · rw [if_pos hc] at h
        refine lv_iload hx hb d_cReader_readClasses_19 (lv_at hl 4 rfl) ?_
        refine lv_sipush (v := 480) hx hb d_cReader_readClasses_21 (by decide) ?_
        refine lv_icmp_ge hx hb d_cReader_readClasses_24 (tgt := 89) (by decide) (fun hc => ?_) (fun hc => ?_)
        · rw [if_pos hc] at h
          refine lv_iconst (v := 1) hx hb d_cReader_readClasses_89 (by decide) ?_
          obtain rfl := Option.some.inj h
          exact rt_zt hQ hx hb hr hX hS hlk d_cReader_readClasses_90
        · rw [if_neg hc] at h
          refine lv_aload_n hx hb d_cReader_readClasses_27 rfl (lv_at hl 0 rfl) ?_
          refine lv_aload_n hx hb d_cReader_readClasses_28 rfl (lv_at hl 0 rfl) ?_
          refine c_get_2_1 hx hb hts hown hC hX (by rfl) (hts _ t_228) d_cReader_readClasses_29 ?_
          obtain ⟨r29, e29, h⟩ := bd_some h
          refine lt_R e29 ?_
          by_cases hkr29 : kd r29 = 7
          rotate_left; · rw [if_neg hkr29] at h; cases h
          rw [if_pos hkr29] at h
          refine c_get_7_2N (k := r29) hx hb hts hown hC hX hkr29 (va_Nw.use rfl (hC.2.1 _ t_192)) d_cReader_readClasses_32 ?_
          obtain ⟨q35, hc35, h⟩ := Option.bind_eq_some_iff.mp h
          refine ck_V (As := [.ref (b + (r29 + 5))]) (rest := []) (st1 := [.int q35.2]) (M_cReader_numberHere (kx_7_5 hkr29) hc35) t_634 t_636 p_13 t_637 t_2 hx hb hts hown hC hX hS (hrc_c2 hC hX (by rfl)) hml hl.1 ⟨by rw [hRf]; decide, by rw [hRl]; decide⟩ ⟨rfl, rfl⟩ (n := 1) (by decide +kernel) rfl rfl rfl (lv_room (Nat.le_of_ble_eq_true rfl)) d_cReader_readClasses_35 (fun H locs hX hS => ?_)
          refine lv_istore (lv' := [(5, .int q35.2), (0, .ref (b + 2)), (1, .ref (b + x1)), (2, .int (bI q6.2)), (3, .int (bI v3_15)), (4, .int v4_15)]) hx hb d_cReader_readClasses_38 hl (by decide) rfl (fun ls hl => ?_)
          refine lv_iload hx hb d_cReader_readClasses_40 (lv_at hl 0 rfl) ?_
          refine lv_iconst (v := (-1)) hx hb d_cReader_readClasses_42 (by decide) ?_
          refine lv_icmp_ne hx hb d_cReader_readClasses_43 (tgt := 48) (by decide) (fun hc => ?_) (fun hc => ?_)
          · rw [if_neg hc] at h
            refine lv_aload_n hx hb d_cReader_readClasses_48 rfl (lv_at hl 2 rfl) ?_
            refine lv_dup hx hb d_cReader_readClasses_49 rfl ?_
            refine c_get_14_9N (k := x1) hx hb hts hown hC hX hk1 (va_Nw.use rfl (hC.2.1 _ t_153)) d_cReader_readClasses_50 ?_
            refine lv_iconst (v := 1) hx hb d_cReader_readClasses_53 (by decide) ?_
            refine lv_iload hx hb d_cReader_readClasses_54 (lv_at hl 0 rfl) ?_
            refine lv_ishl hx hb d_cReader_readClasses_56 ?_
            refine lv_ior hx hb d_cReader_readClasses_57 ?_
            refine c_put_14_9N (k := x1) (v := ((gI q35.1 x1 9) ||| (1 <<< (q35.2 &&& 31)))) hx hb hts hown hC hX hS hk1 (va_Nw.use rfl (hC.2.1 _ t_153)) d_cReader_readClasses_58 (fun H locs hX hS => ?_)
            obtain ⟨S58, e58, h⟩ := bd_some h
            rw [← e58] at hX
            refine lv_iload_n hx hb d_cReader_readClasses_61 rfl (lv_at hl 3 rfl) ?_
            refine lz_ifeq hx hb d_cReader_readClasses_62 (tgt := 81) (by decide) (fun hc => ?_) (fun hc => ?_)
            · rw [if_neg hc] at h
              refine lv_iconst (v := 0) hx hb d_cReader_readClasses_81 (by decide) ?_
              refine lv_istore_n (lv' := [(3, .int (bI false)), (5, .int q35.2), (0, .ref (b + 2)), (1, .ref (b + x1)), (2, .int (bI q6.2)), (4, .int v4_15)]) hx hb d_cReader_readClasses_82 rfl hl (by decide) rfl (fun ls hl => ?_)
              obtain ⟨a83, e83, h⟩ := bd_some h
              refine lv_iinc (v := a83) (lv' := [(4, .int a83), (3, .int (bI false)), (5, .int q35.2), (0, .ref (b + 2)), (1, .ref (b + x1)), (2, .int (bI q6.2))]) hx hb d_cReader_readClasses_83 hl (k := 5) rfl e83.symm (by decide) rfl (fun ls hl => ?_)
              refine lv_goto hx hb d_cReader_readClasses_86 (tgt := 15) (by decide) ?_
              exact ih15 false a83 S58 H locs ls  hX hS (lv_sub hl [3, 4, 5, 1, 0] rfl) h
            · rw [if_pos hc] at h
              refine lv_aload_n hx hb d_cReader_readClasses_65 rfl (lv_at hl 1 rfl) ?_
              refine c_get_2_0 hx hb hts hown hC hX (by rfl) (hts _ t_227) d_cReader_readClasses_66 ?_
              refine lv_bipush (v := 125) hx hb d_cReader_readClasses_69 (by decide) ?_
              obtain ⟨q71, hc71, h⟩ := Option.bind_eq_some_iff.mp h
              refine ck_V (As := [.int 125]) (rest := []) (st1 := [.int (bI q71.2)]) (M_cTokens_skip  hc71) t_599 t_600 t_601 t_602 t_3 hx hb hts hown hC hX hS (hrc_c3 hC hX (by rfl)) hml hl.1 ⟨by rw [hRf]; decide, by rw [hRl]; decide⟩ ⟨rfl, rfl⟩ (n := 1) (by decide +kernel) rfl rfl rfl (lv_room (Nat.le_of_ble_eq_true rfl)) d_cReader_readClasses_71 (fun H locs hX hS => ?_)
              refine lz_ifne hx hb d_cReader_readClasses_74 (tgt := 81) (by decide) (fun hc => ?_) (fun hc => ?_)
              · rw [if_pos hc] at h
                refine lv_iconst (v := 0) hx hb d_cReader_readClasses_81 (by decide) ?_
                refine lv_istore_n (lv' := [(3, .int (bI false)), (5, .int q35.2), (0, .ref (b + 2)), (1, .ref (b + x1)), (2, .int (bI q6.2)), (4, .int v4_15)]) hx hb d_cReader_readClasses_82 rfl hl (by decide) rfl (fun ls hl => ?_)
                obtain ⟨a83, e83, h⟩ := bd_some h
                refine lv_iinc (v := a83) (lv' := [(4, .int a83), (3, .int (bI false)), (5, .int q35.2), (0, .ref (b + 2)), (1, .ref (b + x1)), (2, .int (bI q6.2))]) hx hb d_cReader_readClasses_83 hl (k := 5) rfl e83.symm (by decide) rfl (fun ls hl => ?_)
                refine lv_goto hx hb d_cReader_readClasses_86 (tgt := 15) (by decide) ?_
                exact ih15 false a83 q71.1 H locs ls  hX hS (lv_sub hl [3, 4, 5, 1, 0] rfl) h
              · rw [if_neg hc] at h
                refine lv_iconst (v := 1) hx hb d_cReader_readClasses_77 (by decide) ?_
                refine lv_goto hx hb d_cReader_readClasses_78 (tgt := 82) (by decide) ?_
                refine lv_istore_n (lv' := [(3, .int (bI true)), (5, .int q35.2), (0, .ref (b + 2)), (1, .ref (b + x1)), (2, .int (bI q6.2)), (4, .int v4_15)]) hx hb d_cReader_readClasses_82 rfl hl (by decide) rfl (fun ls hl => ?_)
                obtain ⟨a83, e83, h⟩ := bd_some h
                refine lv_iinc (v := a83) (lv' := [(4, .int a83), (3, .int (bI true)), (5, .int q35.2), (0, .ref (b + 2)), (1, .ref (b + x1)), (2, .int (bI q6.2))]) hx hb d_cReader_readClasses_83 hl (k := 5) rfl e83.symm (by decide) rfl (fun ls hl => ?_)
                refine lv_goto hx hb d_cReader_readClasses_86 (tgt := 15) (by decide) ?_
                exact ih15 true a83 q71.1 H locs ls  hX hS (lv_sub hl [3, 4, 5, 1, 0] rfl) h
          · rw [if_pos hc] at h
            refine lv_iconst (v := 0) hx hb d_cReader_readClasses_46 (by decide) ?_
            obtain rfl := Option.some.inj h
            exact rt_zf hQ hx hb hr hX hS hlk d_cReader_readClasses_47
  exact L15 600 true 0 q6.1 H locs ls  hX hS (lv_sub hl [3, 4, 2, 1, 0] rfl) h
abbrev y_cReader_readPermissionName : MethodName := ({ cls := "TypeGuard$Reader", name := "readPermissionName", desc := "(LTypeGuard$Rule;)Z" } : Jvm.MethodName)
theorem d_cReader_readPermissionName_0 : decode prog_7_method_21_code 0 = .ok (.aload_n 0, 1) := by decide +kernel
theorem d_cReader_readPermissionName_1 : decode prog_7_method_21_code 1 = .ok (.getfield 12, 3) := by decide +kernel
theorem d_cReader_readPermissionName_4 : decode prog_7_method_21_code 4 = .ok (.bipush 97, 2) := by decide +kernel
theorem d_cReader_readPermissionName_6 : decode prog_7_method_21_code 6 = .ok (.invokevirtual 59, 3) := by decide +kernel
theorem d_cReader_readPermissionName_9 : decode prog_7_method_21_code 9 = .ok (.ifCond .ne 9, 3) := by decide +kernel
theorem d_cReader_readPermissionName_12 : decode prog_7_method_21_code 12 = .ok (.aload_n 0, 1) := by decide +kernel
theorem d_cReader_readPermissionName_13 : decode prog_7_method_21_code 13 = .ok (.iconst 1, 1) := by decide +kernel
theorem d_cReader_readPermissionName_14 : decode prog_7_method_21_code 14 = .ok (.invokevirtual 125, 3) := by decide +kernel
theorem d_cReader_readPermissionName_17 : decode prog_7_method_21_code 17 = .ok (.ireturn, 1) := by decide +kernel
theorem d_cReader_readPermissionName_18 : decode prog_7_method_21_code 18 = .ok (.iconst 0, 1) := by decide +kernel
theorem d_cReader_readPermissionName_19 : decode prog_7_method_21_code 19 = .ok (.istore_n 2, 1) := by decide +kernel
theorem d_cReader_readPermissionName_20 : decode prog_7_method_21_code 20 = .ok (.iload_n 2, 1) := by decide +kernel
theorem d_cReader_readPermissionName_21 : decode prog_7_method_21_code 21 = .ok (.iconst 4, 1) := by decide +kernel
theorem d_cReader_readPermissionName_22 : decode prog_7_method_21_code 22 = .ok (.if_icmp .ge 63, 3) := by decide +kernel
theorem d_cReader_readPermissionName_25 : decode prog_7_method_21_code 25 = .ok (.aload_n 1, 1) := by decide +kernel
theorem d_cReader_readPermissionName_26 : decode prog_7_method_21_code 26 = .ok (.getfield 237, 3) := by decide +kernel
theorem d_cReader_readPermissionName_29 : decode prog_7_method_21_code 29 = .ok (.iload_n 2, 1) := by decide +kernel
theorem d_cReader_readPermissionName_30 : decode prog_7_method_21_code 30 = .ok (.invokestatic 265, 3) := by decide +kernel
theorem d_cReader_readPermissionName_33 : decode prog_7_method_21_code 33 = .ok (.ifCond .eq 46, 3) := by decide +kernel
theorem d_cReader_readPermissionName_36 : decode prog_7_method_21_code 36 = .ok (.aload_n 0, 1) := by decide +kernel
theorem d_cReader_readPermissionName_37 : decode prog_7_method_21_code 37 = .ok (.getfield 21, 3) := by decide +kernel
theorem d_cReader_readPermissionName_40 : decode prog_7_method_21_code 40 = .ok (.getfield 151, 3) := by decide +kernel
theorem d_cReader_readPermissionName_43 : decode prog_7_method_21_code 43 = .ok (.iload_n 2, 1) := by decide +kernel
theorem d_cReader_readPermissionName_44 : decode prog_7_method_21_code 44 = .ok (.aaload, 1) := by decide +kernel
theorem d_cReader_readPermissionName_45 : decode prog_7_method_21_code 45 = .ok (.aload_n 0, 1) := by decide +kernel
theorem d_cReader_readPermissionName_46 : decode prog_7_method_21_code 46 = .ok (.getfield 12, 3) := by decide +kernel
theorem d_cReader_readPermissionName_49 : decode prog_7_method_21_code 49 = .ok (.invokevirtual 136, 3) := by decide +kernel
theorem d_cReader_readPermissionName_52 : decode prog_7_method_21_code 52 = .ok (.invokevirtual 160, 3) := by decide +kernel
theorem d_cReader_readPermissionName_55 : decode prog_7_method_21_code 55 = .ok (.istore_n 3, 1) := by decide +kernel
theorem d_cReader_readPermissionName_56 : decode prog_7_method_21_code 56 = .ok (.iload_n 3, 1) := by decide +kernel
theorem d_cReader_readPermissionName_57 : decode prog_7_method_21_code 57 = .ok (.iconst (-1), 1) := by decide +kernel
theorem d_cReader_readPermissionName_58 : decode prog_7_method_21_code 58 = .ok (.if_icmp .ne 9, 3) := by decide +kernel
theorem d_cReader_readPermissionName_61 : decode prog_7_method_21_code 61 = .ok (.aload_n 0, 1) := by decide +kernel
theorem d_cReader_readPermissionName_62 : decode prog_7_method_21_code 62 = .ok (.iconst 2, 1) := by decide +kernel
theorem d_cReader_readPermissionName_63 : decode prog_7_method_21_code 63 = .ok (.invokevirtual 125, 3) := by decide +kernel
theorem d_cReader_readPermissionName_66 : decode prog_7_method_21_code 66 = .ok (.ireturn, 1) := by decide +kernel
theorem d_cReader_readPermissionName_67 : decode prog_7_method_21_code 67 = .ok (.aload_n 1, 1) := by decide +kernel
theorem d_cReader_readPermissionName_68 : decode prog_7_method_21_code 68 = .ok (.getfield 269, 3) := by decide +kernel
theorem d_cReader_readPermissionName_71 : decode prog_7_method_21_code 71 = .ok (.iload_n 2, 1) := by decide +kernel
theorem d_cReader_readPermissionName_72 : decode prog_7_method_21_code 72 = .ok (.dup2, 1) := by decide +kernel
theorem d_cReader_readPermissionName_73 : decode prog_7_method_21_code 73 = .ok (.iaload, 1) := by decide +kernel
theorem d_cReader_readPermissionName_74 : decode prog_7_method_21_code 74 = .ok (.iconst 1, 1) := by decide +kernel
theorem d_cReader_readPermissionName_75 : decode prog_7_method_21_code 75 = .ok (.iload_n 3, 1) := by decide +kernel
theorem d_cReader_readPermissionName_76 : decode prog_7_method_21_code 76 = .ok (.ishl, 1) := by decide +kernel
theorem d_cReader_readPermissionName_77 : decode prog_7_method_21_code 77 = .ok (.ior, 1) := by decide +kernel
theorem d_cReader_readPermissionName_78 : decode prog_7_method_21_code 78 = .ok (.iastore, 1) := by decide +kernel
theorem d_cReader_readPermissionName_79 : decode prog_7_method_21_code 79 = .ok (.iinc 2 1, 3) := by decide +kernel
theorem d_cReader_readPermissionName_82 : decode prog_7_method_21_code 82 = .ok (.goto (-62), 3) := by decide +kernel
theorem d_cReader_readPermissionName_85 : decode prog_7_method_21_code 85 = .ok (.aload_n 0, 1) := by decide +kernel
theorem d_cReader_readPermissionName_86 : decode prog_7_method_21_code 86 = .ok (.getfield 12, 3) := by decide +kernel
theorem d_cReader_readPermissionName_89 : decode prog_7_method_21_code 89 = .ok (.invokevirtual 129, 3) := by decide +kernel
theorem d_cReader_readPermissionName_92 : decode prog_7_method_21_code 92 = .ok (.iconst 1, 1) := by decide +kernel
theorem d_cReader_readPermissionName_93 : decode prog_7_method_21_code 93 = .ok (.ireturn, 1) := by decide +kernel
def cReader_readPermissionName_L20 (v1_20 : Nat) : Nat → Int32 → CS → Option (CS × Bool)
  | 0, _, _ => none
  | n + 1, v2_20, S_20 => (if 4 ≤ v2_20 then ((cTokens_advance S_20).bind fun q89 => some (q89, true)) else ((cG_hasBit (gI S_20 v1_20 9) v2_20).bind fun q30 => (if q30 = true then (bd (gR S_20 2 1) fun r37 => (if kd r37 = 7 then (if inbd v2_20 4 = true then (bd (((r37 + 9) + (4 + 2 * txN v2_20))) fun a44 => ((cTokens_name S_20).bind fun q49 => ((cNames_numberOf a44 q49 S_20).bind fun q52 => (if q52 = (-1) then ((cReader_refuse 2 S_20).bind fun q63 => some (q63.1, q63.2)) else (if inbd v2_20 4 = true then (if inbd v2_20 4 = true then (bd (pI S_20 (v1_20 + 3) (txN v2_20) ((gI S_20 (v1_20 + 3) (txN v2_20)) ||| (1 <<< (q52 &&& 31)))) fun S78 => (bd ((v2_20 + 1)) fun a79 => (cReader_readPermissionName_L20 v1_20 n) a79 S78)) else none) else none))))) else none) else none)) else (bd ((v2_20 + 1)) fun a79 => (cReader_readPermissionName_L20 v1_20 n) a79 S_20))))
def cReader_readPermissionName (x1 : Nat) (S : CS) : Option (CS × Bool) := ((cTokens_is 97 S).bind fun q6 => (if q6 = true then cReader_readPermissionName_L20 x1 600 0 S else ((cReader_refuse 1 S).bind fun q14 => some (q14.1, q14.2))))
set_option maxHeartbeats 4000000 in
set_option maxRecDepth 100000 in
theorem M_cReader_readPermissionName {l : Launch} {D : va_G} {cA : Nat → ClassId} {b : Nat} {ad : Nat → Nat} {x1 : Nat} {S : CS} {T : MS × (Nat → Int64)} {rr : (CS × Bool)} (hk1 : kd x1 = 14) (h : cReader_readPermissionName x1 S = some rr) : Met l y_cReader_readPermissionName (Cond.code y_cReader_readPermissionName prog_7_method_21_code 4 (Option.some Jvm.ClassFile.FieldType.boolean) :: TW) { frames := 1, cells := 0, slots := 0, locals := 23 } (va_Pc [.ref (b + 2), .ref (b + x1)] (Rp D cA b ad (S, T))) (Qr D cA b ad (rr.1, T) (some (.int (bI rr.2)))) 0 0 (Ab b) := by
  refine Ct_of (by decide) (Nat.le_of_ble_eq_true rfl) ?_
  intro p e R s m args below meth c ls Q H locs hR hQ hx hb hts hown hml hr hlk hC hX hS hl
  have hRf : R.frames = 1 := by rw [hR]
  have hRl : R.locals = 23 := by rw [hR]
  have hown : s.vm.findClass "TypeGuard$Reader" = some m.cls := hown
  have hl : lv_has ls 4 [(0, .ref (b + 2)), (1, .ref (b + x1))] := hl
  rw [cReader_readPermissionName] at h
  refine lv_aload_n hx hb d_cReader_readPermissionName_0 rfl (lv_at hl 0 rfl) ?_
  refine c_get_2_0 hx hb hts hown hC hX (by rfl) (hts _ t_227) d_cReader_readPermissionName_1 ?_
  refine lv_bipush (v := 97) hx hb d_cReader_readPermissionName_4 (by decide) ?_
  obtain ⟨q6, hc6, h⟩ := Option.bind_eq_some_iff.mp h
  refine ck_V (As := [.int 97]) (rest := []) (st1 := [.int (bI q6)]) (M_cTokens_is  hc6) t_547 t_548 t_549 t_550 t_3 hx hb hts hown hC hX hS (hrc_c3 hC hX (by rfl)) hml hl.1 ⟨by rw [hRf]; decide, by rw [hRl]; decide⟩ ⟨rfl, rfl⟩ (n := 1) (by decide +kernel) rfl rfl rfl (lv_room (Nat.le_of_ble_eq_true rfl)) d_cReader_readPermissionName_6 (fun H locs hX hS => ?_)
  refine lz_ifne hx hb d_cReader_readPermissionName_9 (tgt := 18) (by decide) (fun hc => ?_) (fun hc => ?_)
  · rw [if_pos hc] at h
    refine lv_iconst (v := 0) hx hb d_cReader_readPermissionName_18 (by decide) ?_
    refine lv_istore_n (lv' := [(2, .int 0), (0, .ref (b + 2)), (1, .ref (b + x1))]) hx hb d_cReader_readPermissionName_19 rfl hl (by decide) rfl (fun ls hl => ?_)
    have L20 : ∀ (n20 : Nat) (v2_20 : Int32) (S_20 : CS) (H : Heap) (locs : List Loc) (ls : Array Slot), hp D cA b ad (S_20, T) H → va_S (Ab b) s.heap H locs → lv_has ls 4 [(0, .ref (b + 2)), (1, .ref (b + x1)), (2, .int v2_20)] → cReader_readPermissionName_L20 x1 n20 v2_20 S_20 = some rr → W p l e R s m args below meth c H locs 0 0 Q (F0 m 20 ls []) := by
      intro n20; induction n20 with
      | zero => intro v2_20 S_20 H locs ls  hX hS hl h; rw [cReader_readPermissionName_L20] at h; cases h
      | succ n20 ih20 =>
        intro v2_20 S_20 H locs ls  hX hS hl h
        rw [cReader_readPermissionName_L20] at h
        refine lv_iload_n hx hb d_cReader_readPermissionName_20 rfl (lv_at hl 2 rfl) ?_
        refine lv_iconst (v := 4) hx hb d_cReader_readPermissionName_21 (by decide) ?_
        refine lv_icmp_ge hx hb d_cReader_readPermissionName_22 (tgt := 85) (by decide) (fun hc => ?_) (fun hc => ?_)
        · rw [if_pos hc] at h
          refine lv_aload_n hx hb d_cReader_readPermissionName_85 rfl (lv_at hl 0 rfl) ?_
          refine c_get_2_0 hx hb hts hown hC hX (by rfl) (hts _ t_227) d_cReader_readPermissionName_86 ?_
          obtain ⟨q89, hc89, h⟩ := Option.bind_eq_some_iff.mp h
          refine ck_V (As := []) (rest := []) (st1 := []) (M_cTokens_advance  hc89) t_591 t_592 t_593 t_594 t_3 hx hb hts hown hC hX hS (hrc_c3 hC hX (by rfl)) hml hl.1 ⟨by rw [hRf]; decide, by rw [hRl]; decide⟩ ⟨rfl, rfl⟩ (n := 0) (by decide +kernel) rfl rfl rfl (lv_room (Nat.le_of_ble_eq_true rfl)) d_cReader_readPermissionName_89 (fun H locs hX hS => ?_)
          refine lv_iconst (v := 1) hx hb d_cReader_readPermissionName_92 (by decide) ?_
          obtain rfl := Option.some.inj h
          exact rt_zt hQ hx hb hr hX hS hlk d_cReader_readPermissionName_93
        · rw [if_neg hc] at h
          refine lv_aload_n hx hb d_cReader_readPermissionName_25 rfl (lv_at hl 1 rfl) ?_
          refine c_get_14_9N (k := x1) hx hb hts hown hC hX hk1 (va_Nw.use rfl (hC.2.1 _ t_153)) d_cReader_readPermissionName_26 ?_
          refine lv_iload_n hx hb d_cReader_readPermissionName_29 rfl (lv_at hl 2 rfl) ?_
          obtain ⟨q30, hc30, h⟩ := Option.bind_eq_some_iff.mp h
          refine ck_SN (As := [.int (gI S_20 x1 9), .int v2_20]) (rest := []) (st1 := [.int (bI q30)]) (M_cG_hasBit  hc30) (hC.2.1 _ t_650) t_651 t_652 t_1 hx hb hts hown hC hX hS  hml hl.1 ⟨by rw [hRf]; decide, by rw [hRl]; decide⟩ ⟨rfl, rfl⟩ (n := 2) (by decide +kernel) rfl rfl rfl (lv_room (Nat.le_of_ble_eq_true rfl)) d_cReader_readPermissionName_30 (fun H locs hX hS => ?_)
          refine lz_ifeq hx hb d_cReader_readPermissionName_33 (tgt := 79) (by decide) (fun hc => ?_) (fun hc => ?_)
          · rw [if_neg hc] at h
            obtain ⟨a79, e79, h⟩ := bd_some h
            refine lv_iinc (v := a79) (lv' := [(2, .int a79), (0, .ref (b + 2)), (1, .ref (b + x1))]) hx hb d_cReader_readPermissionName_79 hl (k := 2) rfl e79.symm (by decide) rfl (fun ls hl => ?_)
            refine lv_goto hx hb d_cReader_readPermissionName_82 (tgt := 20) (by decide) ?_
            exact ih20 a79 S_20 H locs ls  hX hS (lv_sub hl [1, 2, 0] rfl) h
          · rw [if_pos hc] at h
            refine lv_aload_n hx hb d_cReader_readPermissionName_36 rfl (lv_at hl 0 rfl) ?_
            refine c_get_2_1 hx hb hts hown hC hX (by rfl) (hts _ t_228) d_cReader_readPermissionName_37 ?_
            obtain ⟨r37, e37, h⟩ := bd_some h
            refine lt_R e37 ?_
            by_cases hkr37 : kd r37 = 7
            rotate_left; · rw [if_neg hkr37] at h; cases h
            rw [if_pos hkr37] at h
            refine c_get_7_4N (k := r37) hx hb hts hown hC hX hkr37 (va_Nw.use rfl (hC.2.1 _ t_197)) d_cReader_readPermissionName_40 ?_
            refine lv_iload_n hx hb d_cReader_readPermissionName_43 rfl (lv_at hl 2 rfl) ?_
            by_cases hg44 : inbd v2_20 4 = true
            rotate_left; · rw [if_neg hg44] at h; cases h
            rw [if_pos hg44] at h
            refine c_ald_10 (k := (r37 + 9)) hx hb hC hX (kx_7_9 hkr37) hg44 d_cReader_readPermissionName_44 ?_
            obtain ⟨a44, e44, h⟩ := bd_some h
            refine lt_R e44 ?_
            have hka44 := (ke_10 (k := (r37 + 9)) (kx_7_9 hkr37) (inbd_lt hg44))
            rw [← e44] at hka44
            refine lv_aload_n hx hb d_cReader_readPermissionName_45 rfl (lv_at hl 0 rfl) ?_
            refine c_get_2_0 hx hb hts hown hC hX (by rfl) (hts _ t_227) d_cReader_readPermissionName_46 ?_
            obtain ⟨q49, hc49, h⟩ := Option.bind_eq_some_iff.mp h
            refine ck_V (As := []) (rest := [.ref (b + a44)]) (st1 := [.long q49, .ref (b + a44)]) (M_cTokens_name  hc49) t_609 t_610 t_611 t_612 t_3 hx hb hts hown hC hX hS (hrc_c3 hC hX (by rfl)) hml hl.1 ⟨by rw [hRf]; decide, by rw [hRl]; decide⟩ ⟨rfl, rfl⟩ (n := 0) (by decide +kernel) rfl rfl rfl (lv_room (Nat.le_of_ble_eq_true rfl)) d_cReader_readPermissionName_49 (fun H locs hX hS => ?_)
            obtain ⟨q52, hc52, h⟩ := Option.bind_eq_some_iff.mp h
            refine ck_V (As := [.long q49]) (rest := []) (st1 := [.int q52]) (M_cNames_numberOf hka44 hc52) t_613 t_386 t_387 t_388 t_5 hx hb hts hown hC hX hS (hrc_c8 hC hX hka44) hml hl.1 ⟨by rw [hRf]; decide, by rw [hRl]; decide⟩ ⟨rfl, rfl⟩ (n := 1) (by decide +kernel) rfl rfl rfl (lv_room (Nat.le_of_ble_eq_true rfl)) d_cReader_readPermissionName_52 (fun H locs hX hS => ?_)
            refine lv_istore_n (lv' := [(3, .int q52), (0, .ref (b + 2)), (1, .ref (b + x1)), (2, .int v2_20)]) hx hb d_cReader_readPermissionName_55 rfl hl (by decide) rfl (fun ls hl => ?_)
            refine lv_iload_n hx hb d_cReader_readPermissionName_56 rfl (lv_at hl 0 rfl) ?_
            refine lv_iconst (v := (-1)) hx hb d_cReader_readPermissionName_57 (by decide) ?_
            refine lv_icmp_ne hx hb d_cReader_readPermissionName_58 (tgt := 67) (by decide) (fun hc => ?_) (fun hc => ?_)
            · rw [if_neg hc] at h
              refine lv_aload_n hx hb d_cReader_readPermissionName_67 rfl (lv_at hl 2 rfl) ?_
              refine c_get_14_10N (k := x1) hx hb hts hown hC hX hk1 (va_Nw.use rfl (hC.2.1 _ t_156)) d_cReader_readPermissionName_68 ?_
              refine lv_iload_n hx hb d_cReader_readPermissionName_71 rfl (lv_at hl 3 rfl) ?_
              refine lv_dup2_11 hx hb d_cReader_readPermissionName_72 rfl rfl ?_
              by_cases hg73 : inbd v2_20 4 = true
              rotate_left; · rw [if_neg hg73] at h; cases h
              rw [if_pos hg73] at h
              refine c_ald_16 (k := (x1 + 3)) hx hb hC hX (kx_14_3 hk1) hg73 d_cReader_readPermissionName_73 ?_
              refine lv_iconst (v := 1) hx hb d_cReader_readPermissionName_74 (by decide) ?_
              refine lv_iload_n hx hb d_cReader_readPermissionName_75 rfl (lv_at hl 0 rfl) ?_
              refine lv_ishl hx hb d_cReader_readPermissionName_76 ?_
              refine lv_ior hx hb d_cReader_readPermissionName_77 ?_
              by_cases hg78 : inbd v2_20 4 = true
              rotate_left; · rw [if_neg hg78] at h; cases h
              rw [if_pos hg78] at h
              refine c_ast_16 (k := (x1 + 3)) (v := ((gI S_20 (x1 + 3) (txN v2_20)) ||| (1 <<< (q52 &&& 31)))) hx hb hC hX hS (kx_14_3 hk1) hg78 d_cReader_readPermissionName_78 (fun H locs hX hS => ?_)
              obtain ⟨S78, e78, h⟩ := bd_some h
              rw [← e78] at hX
              obtain ⟨a79, e79, h⟩ := bd_some h
              refine lv_iinc (v := a79) (lv' := [(2, .int a79), (3, .int q52), (0, .ref (b + 2)), (1, .ref (b + x1))]) hx hb d_cReader_readPermissionName_79 hl (k := 3) rfl e79.symm (by decide) rfl (fun ls hl => ?_)
              refine lv_goto hx hb d_cReader_readPermissionName_82 (tgt := 20) (by decide) ?_
              exact ih20 a79 S78 H locs ls  hX hS (lv_sub hl [2, 3, 0] rfl) h
            · rw [if_pos hc] at h
              refine lv_aload_n hx hb d_cReader_readPermissionName_61 rfl (lv_at hl 1 rfl) ?_
              refine lv_iconst (v := 2) hx hb d_cReader_readPermissionName_62 (by decide) ?_
              obtain ⟨q63, hc63, h⟩ := Option.bind_eq_some_iff.mp h
              refine ck_V (As := [.int 2]) (rest := []) (st1 := [.int (bI q63.2)]) (M_cReader_refuse  hc63) t_575 t_577 p_8 t_578 t_2 hx hb hts hown hC hX hS (hrc_c2 hC hX (by rfl)) hml hl.1 ⟨by rw [hRf]; decide, by rw [hRl]; decide⟩ ⟨rfl, rfl⟩ (n := 1) (by decide +kernel) rfl rfl rfl (lv_room (Nat.le_of_ble_eq_true rfl)) d_cReader_readPermissionName_63 (fun H locs hX hS => ?_)
              obtain rfl := Option.some.inj h
              exact rt_z hQ hx hb hr hX hS hlk d_cReader_readPermissionName_66
    exact L20 600 0 S H locs ls  hX hS (lv_sub hl [1, 2, 0] rfl) h
  · rw [if_neg hc] at h
    refine lv_aload_n hx hb d_cReader_readPermissionName_12 rfl (lv_at hl 0 rfl) ?_
    refine lv_iconst (v := 1) hx hb d_cReader_readPermissionName_13 (by decide) ?_
    obtain ⟨q14, hc14, h⟩ := Option.bind_eq_some_iff.mp h
    refine ck_V (As := [.int 1]) (rest := []) (st1 := [.int (bI q14.2)]) (M_cReader_refuse  hc14) t_575 t_577 p_8 t_578 t_2 hx hb hts hown hC hX hS (hrc_c2 hC hX (by rfl)) hml hl.1 ⟨by rw [hRf]; decide, by rw [hRl]; decide⟩ ⟨rfl, rfl⟩ (n := 1) (by decide +kernel) rfl rfl rfl (lv_room (Nat.le_of_ble_eq_true rfl)) d_cReader_readPermissionName_14 (fun H locs hX hS => ?_)
    obtain rfl := Option.some.inj h
    exact rt_z hQ hx hb hr hX hS hlk d_cReader_readPermissionName_17
abbrev y_cReader_invertPermissions : MethodName := ({ cls := "TypeGuard$Reader", name := "invertPermissions", desc := "(LTypeGuard$Rule;)V" } : Jvm.MethodName)
theorem d_cReader_invertPermissions_0 : decode prog_7_method_20_code 0 = .ok (.iconst 0, 1) := by decide +kernel
theorem d_cReader_invertPermissions_1 : decode prog_7_method_20_code 1 = .ok (.istore_n 2, 1) := by decide +kernel
theorem d_cReader_invertPermissions_2 : decode prog_7_method_20_code 2 = .ok (.iload_n 2, 1) := by decide +kernel
theorem d_cReader_invertPermissions_3 : decode prog_7_method_20_code 3 = .ok (.iconst 4, 1) := by decide +kernel
theorem d_cReader_invertPermissions_4 : decode prog_7_method_20_code 4 = .ok (.if_icmp .ge 47, 3) := by decide +kernel
theorem d_cReader_invertPermissions_7 : decode prog_7_method_20_code 7 = .ok (.aload_n 1, 1) := by decide +kernel
theorem d_cReader_invertPermissions_8 : decode prog_7_method_20_code 8 = .ok (.getfield 237, 3) := by decide +kernel
theorem d_cReader_invertPermissions_11 : decode prog_7_method_20_code 11 = .ok (.iload_n 2, 1) := by decide +kernel
theorem d_cReader_invertPermissions_12 : decode prog_7_method_20_code 12 = .ok (.invokestatic 265, 3) := by decide +kernel
theorem d_cReader_invertPermissions_15 : decode prog_7_method_20_code 15 = .ok (.ifCond .eq 30, 3) := by decide +kernel
theorem d_cReader_invertPermissions_18 : decode prog_7_method_20_code 18 = .ok (.aload_n 1, 1) := by decide +kernel
theorem d_cReader_invertPermissions_19 : decode prog_7_method_20_code 19 = .ok (.getfield 269, 3) := by decide +kernel
theorem d_cReader_invertPermissions_22 : decode prog_7_method_20_code 22 = .ok (.iload_n 2, 1) := by decide +kernel
theorem d_cReader_invertPermissions_23 : decode prog_7_method_20_code 23 = .ok (.aload_n 0, 1) := by decide +kernel
theorem d_cReader_invertPermissions_24 : decode prog_7_method_20_code 24 = .ok (.getfield 21, 3) := by decide +kernel
theorem d_cReader_invertPermissions_27 : decode prog_7_method_20_code 27 = .ok (.getfield 151, 3) := by decide +kernel
theorem d_cReader_invertPermissions_30 : decode prog_7_method_20_code 30 = .ok (.iload_n 2, 1) := by decide +kernel
theorem d_cReader_invertPermissions_31 : decode prog_7_method_20_code 31 = .ok (.aaload, 1) := by decide +kernel
theorem d_cReader_invertPermissions_32 : decode prog_7_method_20_code 32 = .ok (.invokevirtual 271, 3) := by decide +kernel
theorem d_cReader_invertPermissions_35 : decode prog_7_method_20_code 35 = .ok (.aload_n 1, 1) := by decide +kernel
theorem d_cReader_invertPermissions_36 : decode prog_7_method_20_code 36 = .ok (.getfield 269, 3) := by decide +kernel
theorem d_cReader_invertPermissions_39 : decode prog_7_method_20_code 39 = .ok (.iload_n 2, 1) := by decide +kernel
theorem d_cReader_invertPermissions_40 : decode prog_7_method_20_code 40 = .ok (.iaload, 1) := by decide +kernel
theorem d_cReader_invertPermissions_41 : decode prog_7_method_20_code 41 = .ok (.iconst (-1), 1) := by decide +kernel
theorem d_cReader_invertPermissions_42 : decode prog_7_method_20_code 42 = .ok (.ixor, 1) := by decide +kernel
theorem d_cReader_invertPermissions_43 : decode prog_7_method_20_code 43 = .ok (.iand, 1) := by decide +kernel
theorem d_cReader_invertPermissions_44 : decode prog_7_method_20_code 44 = .ok (.iastore, 1) := by decide +kernel
theorem d_cReader_invertPermissions_45 : decode prog_7_method_20_code 45 = .ok (.iinc 2 1, 3) := by decide +kernel
theorem d_cReader_invertPermissions_48 : decode prog_7_method_20_code 48 = .ok (.goto (-46), 3) := by decide +kernel
theorem d_cReader_invertPermissions_51 : decode prog_7_method_20_code 51 = .ok (.return_, 1) := by decide +kernel
def cReader_invertPermissions_L2 (v1_2 : Nat) : Nat → Int32 → CS → Option CS
  | 0, _, _ => none
  | n + 1, v2_2, S_2 => (if 4 ≤ v2_2 then some S_2 else ((cG_hasBit (gI S_2 v1_2 9) v2_2).bind fun q12 => (if q12 = true then (bd (gR S_2 2 1) fun r24 => (if kd r24 = 7 then (if inbd v2_2 4 = true then (bd (((r24 + 9) + (4 + 2 * txN v2_2))) fun a31 => ((cNames_allBits a31 S_2).bind fun q32 => (if inbd v2_2 4 = true then (if inbd v2_2 4 = true then (bd (pI S_2 (v1_2 + 3) (txN v2_2) (q32 &&& ((gI S_2 (v1_2 + 3) (txN v2_2)) ^^^ (-1)))) fun S44 => (bd ((v2_2 + 1)) fun a45 => (cReader_invertPermissions_L2 v1_2 n) a45 S44)) else none) else none))) else none) else none)) else (bd ((v2_2 + 1)) fun a45 => (cReader_invertPermissions_L2 v1_2 n) a45 S_2))))
def cReader_invertPermissions (x1 : Nat) (S : CS) : Option CS := cReader_invertPermissions_L2 x1 600 0 S
set_option maxHeartbeats 4000000 in
set_option maxRecDepth 100000 in
theorem M_cReader_invertPermissions {l : Launch} {D : va_G} {cA : Nat → ClassId} {b : Nat} {ad : Nat → Nat} {x1 : Nat} {S : CS} {T : MS × (Nat → Int64)} {rr : CS} (hk1 : kd x1 = 14) (h : cReader_invertPermissions x1 S = some rr) : Met l y_cReader_invertPermissions (Cond.code y_cReader_invertPermissions prog_7_method_20_code 3 (Option.none : Option Jvm.ClassFile.FieldType) :: TW) { frames := 1, cells := 0, slots := 0, locals := 21 } (va_Pc [.ref (b + 2), .ref (b + x1)] (Rp D cA b ad (S, T))) (Qr D cA b ad (rr, T) none) 0 0 (Ab b) := by
  refine Ct_of (by decide) (Nat.le_of_ble_eq_true rfl) ?_
  intro p e R s m args below meth c ls Q H locs hR hQ hx hb hts hown hml hr hlk hC hX hS hl
  have hRf : R.frames = 1 := by rw [hR]
  have hRl : R.locals = 21 := by rw [hR]
  have hown : s.vm.findClass "TypeGuard$Reader" = some m.cls := hown
  have hl : lv_has ls 3 [(0, .ref (b + 2)), (1, .ref (b + x1))] := hl
  rw [cReader_invertPermissions] at h
  refine lv_iconst (v := 0) hx hb d_cReader_invertPermissions_0 (by decide) ?_
  refine lv_istore_n (lv' := [(2, .int 0), (0, .ref (b + 2)), (1, .ref (b + x1))]) hx hb d_cReader_invertPermissions_1 rfl hl (by decide) rfl (fun ls hl => ?_)
  have L2 : ∀ (n2 : Nat) (v2_2 : Int32) (S_2 : CS) (H : Heap) (locs : List Loc) (ls : Array Slot), hp D cA b ad (S_2, T) H → va_S (Ab b) s.heap H locs → lv_has ls 3 [(0, .ref (b + 2)), (1, .ref (b + x1)), (2, .int v2_2)] → cReader_invertPermissions_L2 x1 n2 v2_2 S_2 = some rr → W p l e R s m args below meth c H locs 0 0 Q (F0 m 2 ls []) := by
    intro n2; induction n2 with
    | zero => intro v2_2 S_2 H locs ls  hX hS hl h; rw [cReader_invertPermissions_L2] at h; cases h
    | succ n2 ih2 =>
      intro v2_2 S_2 H locs ls  hX hS hl h
      rw [cReader_invertPermissions_L2] at h
      refine lv_iload_n hx hb d_cReader_invertPermissions_2 rfl (lv_at hl 2 rfl) ?_
      refine lv_iconst (v := 4) hx hb d_cReader_invertPermissions_3 (by decide) ?_
      refine lv_icmp_ge hx hb d_cReader_invertPermissions_4 (tgt := 51) (by decide) (fun hc => ?_) (fun hc => ?_)
      · rw [if_pos hc] at h
        obtain rfl := Option.some.inj h
        exact rt_v hQ hx hb hr hX hS hlk d_cReader_invertPermissions_51
      · rw [if_neg hc] at h
        refine lv_aload_n hx hb d_cReader_invertPermissions_7 rfl (lv_at hl 1 rfl) ?_
        refine c_get_14_9N (k := x1) hx hb hts hown hC hX hk1 (va_Nw.use rfl (hC.2.1 _ t_153)) d_cReader_invertPermissions_8 ?_
        refine lv_iload_n hx hb d_cReader_invertPermissions_11 rfl (lv_at hl 2 rfl) ?_
        obtain ⟨q12, hc12, h⟩ := Option.bind_eq_some_iff.mp h
        refine ck_SN (As := [.int (gI S_2 x1 9), .int v2_2]) (rest := []) (st1 := [.int (bI q12)]) (M_cG_hasBit  hc12) (hC.2.1 _ t_650) t_651 t_652 t_1 hx hb hts hown hC hX hS  hml hl.1 ⟨by rw [hRf]; decide, by rw [hRl]; decide⟩ ⟨rfl, rfl⟩ (n := 2) (by decide +kernel) rfl rfl rfl (lv_room (Nat.le_of_ble_eq_true rfl)) d_cReader_invertPermissions_12 (fun H locs hX hS => ?_)
        refine lz_ifeq hx hb d_cReader_invertPermissions_15 (tgt := 45) (by decide) (fun hc => ?_) (fun hc => ?_)
        · rw [if_neg hc] at h
          obtain ⟨a45, e45, h⟩ := bd_some h
          refine lv_iinc (v := a45) (lv' := [(2, .int a45), (0, .ref (b + 2)), (1, .ref (b + x1))]) hx hb d_cReader_invertPermissions_45 hl (k := 2) rfl e45.symm (by decide) rfl (fun ls hl => ?_)
          refine lv_goto hx hb d_cReader_invertPermissions_48 (tgt := 2) (by decide) ?_
          exact ih2 a45 S_2 H locs ls  hX hS (lv_sub hl [1, 2, 0] rfl) h
        · rw [if_pos hc] at h
          refine lv_aload_n hx hb d_cReader_invertPermissions_18 rfl (lv_at hl 1 rfl) ?_
          refine c_get_14_10N (k := x1) hx hb hts hown hC hX hk1 (va_Nw.use rfl (hC.2.1 _ t_156)) d_cReader_invertPermissions_19 ?_
          refine lv_iload_n hx hb d_cReader_invertPermissions_22 rfl (lv_at hl 2 rfl) ?_
          refine lv_aload_n hx hb d_cReader_invertPermissions_23 rfl (lv_at hl 0 rfl) ?_
          refine c_get_2_1 hx hb hts hown hC hX (by rfl) (hts _ t_228) d_cReader_invertPermissions_24 ?_
          obtain ⟨r24, e24, h⟩ := bd_some h
          refine lt_R e24 ?_
          by_cases hkr24 : kd r24 = 7
          rotate_left; · rw [if_neg hkr24] at h; cases h
          rw [if_pos hkr24] at h
          refine c_get_7_4N (k := r24) hx hb hts hown hC hX hkr24 (va_Nw.use rfl (hC.2.1 _ t_197)) d_cReader_invertPermissions_27 ?_
          refine lv_iload_n hx hb d_cReader_invertPermissions_30 rfl (lv_at hl 2 rfl) ?_
          by_cases hg31 : inbd v2_2 4 = true
          rotate_left; · rw [if_neg hg31] at h; cases h
          rw [if_pos hg31] at h
          refine c_ald_10 (k := (r24 + 9)) hx hb hC hX (kx_7_9 hkr24) hg31 d_cReader_invertPermissions_31 ?_
          obtain ⟨a31, e31, h⟩ := bd_some h
          refine lt_R e31 ?_
          have hka31 := (ke_10 (k := (r24 + 9)) (kx_7_9 hkr24) (inbd_lt hg31))
          rw [← e31] at hka31
          obtain ⟨q32, hc32, h⟩ := Option.bind_eq_some_iff.mp h
          refine ck_V (As := []) (rest := [.int v2_2, .ref (b + (x1 + 3))]) (st1 := [.int q32, .int v2_2, .ref (b + (x1 + 3))]) (M_cNames_allBits hka31 hc32) t_657 t_658 t_659 t_660 t_5 hx hb hts hown hC hX hS (hrc_c8 hC hX hka31) hml hl.1 ⟨by rw [hRf]; decide, by rw [hRl]; decide⟩ ⟨rfl, rfl⟩ (n := 0) (by decide +kernel) rfl rfl rfl (lv_room (Nat.le_of_ble_eq_true rfl)) d_cReader_invertPermissions_32 (fun H locs hX hS => ?_)
          refine lv_aload_n hx hb d_cReader_invertPermissions_35 rfl (lv_at hl 1 rfl) ?_
          refine c_get_14_10N (k := x1) hx hb hts hown hC hX hk1 (va_Nw.use rfl (hC.2.1 _ t_156)) d_cReader_invertPermissions_36 ?_
          refine lv_iload_n hx hb d_cReader_invertPermissions_39 rfl (lv_at hl 2 rfl) ?_
          by_cases hg40 : inbd v2_2 4 = true
          rotate_left; · rw [if_neg hg40] at h; cases h
          rw [if_pos hg40] at h
          refine c_ald_16 (k := (x1 + 3)) hx hb hC hX (kx_14_3 hk1) hg40 d_cReader_invertPermissions_40 ?_
          refine lv_iconst (v := (-1)) hx hb d_cReader_invertPermissions_41 (by decide) ?_
          refine lv_ixor hx hb d_cReader_invertPermissions_42 ?_
          refine lv_iand hx hb d_cReader_invertPermissions_43 ?_
          by_cases hg44 : inbd v2_2 4 = true
          rotate_left; · rw [if_neg hg44] at h; cases h
          rw [if_pos hg44] at h
          refine c_ast_16 (k := (x1 + 3)) (v := (q32 &&& ((gI S_2 (x1 + 3) (txN v2_2)) ^^^ (-1)))) hx hb hC hX hS (kx_14_3 hk1) hg44 d_cReader_invertPermissions_44 (fun H locs hX hS => ?_)
          obtain ⟨S44, e44, h⟩ := bd_some h
          rw [← e44] at hX
          obtain ⟨a45, e45, h⟩ := bd_some h
          refine lv_iinc (v := a45) (lv' := [(2, .int a45), (0, .ref (b + 2)), (1, .ref (b + x1))]) hx hb d_cReader_invertPermissions_45 hl (k := 2) rfl e45.symm (by decide) rfl (fun ls hl => ?_)
          refine lv_goto hx hb d_cReader_invertPermissions_48 (tgt := 2) (by decide) ?_
          exact ih2 a45 S44 H locs ls  hX hS (lv_sub hl [1, 2, 0] rfl) h
  exact L2 600 0 S H locs ls  hX hS (lv_sub hl [1, 2, 0] rfl) h
abbrev y_cReader_readPermissions : MethodName := ({ cls := "TypeGuard$Reader", name := "readPermissions", desc := "(LTypeGuard$Rule;)Z" } : Jvm.MethodName)
theorem d_cReader_readPermissions_0 : decode prog_7_method_19_code 0 = .ok (.aload_n 0, 1) := by decide +kernel
theorem d_cReader_readPermissions_1 : decode prog_7_method_19_code 1 = .ok (.getfield 12, 3) := by decide +kernel
theorem d_cReader_readPermissions_4 : decode prog_7_method_19_code 4 = .ok (.bipush 126, 2) := by decide +kernel
theorem d_cReader_readPermissions_6 : decode prog_7_method_19_code 6 = .ok (.invokevirtual 170, 3) := by decide +kernel
theorem d_cReader_readPermissions_9 : decode prog_7_method_19_code 9 = .ok (.istore_n 2, 1) := by decide +kernel
theorem d_cReader_readPermissions_10 : decode prog_7_method_19_code 10 = .ok (.aload_n 0, 1) := by decide +kernel
theorem d_cReader_readPermissions_11 : decode prog_7_method_19_code 11 = .ok (.getfield 12, 3) := by decide +kernel
theorem d_cReader_readPermissions_14 : decode prog_7_method_19_code 14 = .ok (.bipush 42, 2) := by decide +kernel
theorem d_cReader_readPermissions_16 : decode prog_7_method_19_code 16 = .ok (.invokevirtual 170, 3) := by decide +kernel
theorem d_cReader_readPermissions_19 : decode prog_7_method_19_code 19 = .ok (.istore_n 3, 1) := by decide +kernel
theorem d_cReader_readPermissions_20 : decode prog_7_method_19_code 20 = .ok (.iload_n 3, 1) := by decide +kernel
theorem d_cReader_readPermissions_21 : decode prog_7_method_19_code 21 = .ok (.ifCond .ne 19, 3) := by decide +kernel
theorem d_cReader_readPermissions_24 : decode prog_7_method_19_code 24 = .ok (.aload_n 0, 1) := by decide +kernel
theorem d_cReader_readPermissions_25 : decode prog_7_method_19_code 25 = .ok (.getfield 12, 3) := by decide +kernel
theorem d_cReader_readPermissions_28 : decode prog_7_method_19_code 28 = .ok (.bipush 123, 2) := by decide +kernel
theorem d_cReader_readPermissions_30 : decode prog_7_method_19_code 30 = .ok (.invokevirtual 170, 3) := by decide +kernel
theorem d_cReader_readPermissions_33 : decode prog_7_method_19_code 33 = .ok (.ifCond .eq 7, 3) := by decide +kernel
theorem d_cReader_readPermissions_36 : decode prog_7_method_19_code 36 = .ok (.iconst 1, 1) := by decide +kernel
theorem d_cReader_readPermissions_37 : decode prog_7_method_19_code 37 = .ok (.goto 4, 3) := by decide +kernel
theorem d_cReader_readPermissions_40 : decode prog_7_method_19_code 40 = .ok (.iconst 0, 1) := by decide +kernel
theorem d_cReader_readPermissions_41 : decode prog_7_method_19_code 41 = .ok (.istore 4, 2) := by decide +kernel
theorem d_cReader_readPermissions_43 : decode prog_7_method_19_code 43 = .ok (.iload_n 3, 1) := by decide +kernel
theorem d_cReader_readPermissions_44 : decode prog_7_method_19_code 44 = .ok (.ifCond .ne 7, 3) := by decide +kernel
theorem d_cReader_readPermissions_47 : decode prog_7_method_19_code 47 = .ok (.iconst 1, 1) := by decide +kernel
theorem d_cReader_readPermissions_48 : decode prog_7_method_19_code 48 = .ok (.goto 4, 3) := by decide +kernel
theorem d_cReader_readPermissions_51 : decode prog_7_method_19_code 51 = .ok (.iconst 0, 1) := by decide +kernel
theorem d_cReader_readPermissions_52 : decode prog_7_method_19_code 52 = .ok (.istore 5, 2) := by decide +kernel
theorem d_cReader_readPermissions_54 : decode prog_7_method_19_code 54 = .ok (.iconst 0, 1) := by decide +kernel
theorem d_cReader_readPermissions_55 : decode prog_7_method_19_code 55 = .ok (.istore 6, 2) := by decide +kernel
theorem d_cReader_readPermissions_57 : decode prog_7_method_19_code 57 = .ok (.iload 5, 2) := by decide +kernel
theorem d_cReader_readPermissions_59 : decode prog_7_method_19_code 59 = .ok (.ifCond .eq 51, 3) := by decide +kernel
theorem d_cReader_readPermissions_62 : decode prog_7_method_19_code 62 = .ok (.iload 6, 2) := by decide +kernel
theorem d_cReader_readPermissions_64 : decode prog_7_method_19_code 64 = .ok (.sipush 480, 3) := by decide +kernel
theorem d_cReader_readPermissions_67 : decode prog_7_method_19_code 67 = .ok (.if_icmp .ge 43, 3) := by decide +kernel
theorem d_cReader_readPermissions_70 : decode prog_7_method_19_code 70 = .ok (.aload_n 0, 1) := by decide +kernel
theorem d_cReader_readPermissions_71 : decode prog_7_method_19_code 71 = .ok (.aload_n 1, 1) := by decide +kernel
theorem d_cReader_readPermissions_72 : decode prog_7_method_19_code 72 = .ok (.invokevirtual 258, 3) := by decide +kernel
theorem d_cReader_readPermissions_75 : decode prog_7_method_19_code 75 = .ok (.ifCond .ne 5, 3) := by decide +kernel
theorem d_cReader_readPermissions_78 : decode prog_7_method_19_code 78 = .ok (.iconst 0, 1) := by decide +kernel
theorem d_cReader_readPermissions_79 : decode prog_7_method_19_code 79 = .ok (.ireturn, 1) := by decide +kernel
theorem d_cReader_readPermissions_80 : decode prog_7_method_19_code 80 = .ok (.iload 4, 2) := by decide +kernel
theorem d_cReader_readPermissions_82 : decode prog_7_method_19_code 82 = .ok (.ifCond .eq 19, 3) := by decide +kernel
theorem d_cReader_readPermissions_85 : decode prog_7_method_19_code 85 = .ok (.aload_n 0, 1) := by decide +kernel
theorem d_cReader_readPermissions_86 : decode prog_7_method_19_code 86 = .ok (.getfield 12, 3) := by decide +kernel
theorem d_cReader_readPermissions_89 : decode prog_7_method_19_code 89 = .ok (.bipush 125, 2) := by decide +kernel
theorem d_cReader_readPermissions_91 : decode prog_7_method_19_code 91 = .ok (.invokevirtual 170, 3) := by decide +kernel
theorem d_cReader_readPermissions_94 : decode prog_7_method_19_code 94 = .ok (.ifCond .ne 7, 3) := by decide +kernel
theorem d_cReader_readPermissions_97 : decode prog_7_method_19_code 97 = .ok (.iconst 1, 1) := by decide +kernel
theorem d_cReader_readPermissions_98 : decode prog_7_method_19_code 98 = .ok (.goto 4, 3) := by decide +kernel
theorem d_cReader_readPermissions_101 : decode prog_7_method_19_code 101 = .ok (.iconst 0, 1) := by decide +kernel
theorem d_cReader_readPermissions_102 : decode prog_7_method_19_code 102 = .ok (.istore 5, 2) := by decide +kernel
theorem d_cReader_readPermissions_104 : decode prog_7_method_19_code 104 = .ok (.iinc 6 1, 3) := by decide +kernel
theorem d_cReader_readPermissions_107 : decode prog_7_method_19_code 107 = .ok (.goto (-50), 3) := by decide +kernel
theorem d_cReader_readPermissions_110 : decode prog_7_method_19_code 110 = .ok (.iload_n 2, 1) := by decide +kernel
theorem d_cReader_readPermissions_111 : decode prog_7_method_19_code 111 = .ok (.iload_n 3, 1) := by decide +kernel
theorem d_cReader_readPermissions_112 : decode prog_7_method_19_code 112 = .ok (.if_icmp .eq 8, 3) := by decide +kernel
theorem d_cReader_readPermissions_115 : decode prog_7_method_19_code 115 = .ok (.aload_n 0, 1) := by decide +kernel
theorem d_cReader_readPermissions_116 : decode prog_7_method_19_code 116 = .ok (.aload_n 1, 1) := by decide +kernel
theorem d_cReader_readPermissions_117 : decode prog_7_method_19_code 117 = .ok (.invokevirtual 261, 3) := by decide +kernel
theorem d_cReader_readPermissions_120 : decode prog_7_method_19_code 120 = .ok (.iconst 1, 1) := by decide +kernel
theorem d_cReader_readPermissions_121 : decode prog_7_method_19_code 121 = .ok (.ireturn, 1) := by decide +kernel
def cReader_readPermissions_J110 (v1_110 : Nat) (v2_110 : Bool) (v3_110 : Bool) (S_110 : CS) : Option (CS × Bool) := (if (bI v2_110) = (bI v3_110) then some (S_110, true) else ((cReader_invertPermissions v1_110 S_110).bind fun q117 => some (q117, true)))
def cReader_readPermissions_L57 (v1_57 : Nat) (v2_57 : Bool) (v3_57 : Bool) (v4_57 : Bool) : Nat → Bool → Int32 → CS → Option (CS × Bool)
  | 0, _, _, _ => none
  | n + 1, v5_57, v6_57, S_57 => (if v5_57 = true then (if 480 ≤ v6_57 then cReader_readPermissions_J110 v1_57 v2_57 v3_57 S_57 else ((cReader_readPermissionName v1_57 S_57).bind fun q72 => (if q72.2 = true then (if v4_57 = true then ((cTokens_skip 125 q72.1).bind fun q91 => (if q91.2 = true then (bd ((v6_57 + 1)) fun a104 => (cReader_readPermissions_L57 v1_57 v2_57 v3_57 v4_57 n) false a104 q91.1) else (bd ((v6_57 + 1)) fun a104 => (cReader_readPermissions_L57 v1_57 v2_57 v3_57 v4_57 n) true a104 q91.1))) else (bd ((v6_57 + 1)) fun a104 => (cReader_readPermissions_L57 v1_57 v2_57 v3_57 v4_57 n) false a104 q72.1)) else some (q72.1, false)))) else cReader_readPermissions_J110 v1_57 v2_57 v3_57 S_57)
def cReader_readPermissions_J41 (v1_41 : Nat) (v2_41 : Bool) (v3_41 : Bool) (s0_41 : Bool) (S_41 : CS) : Option (CS × Bool) := (if v3_41 = true then cReader_readPermissions_L57 v1_41 v2_41 v3_41 s0_41 600 false 0 S_41 else cReader_readPermissions_L57 v1_41 v2_41 v3_41 s0_41 600 true 0 S_41)
def cReader_readPermissions_J40 (v1_40 : Nat) (v2_40 : Bool) (v3_40 : Bool) (S_40 : CS) : Option (CS × Bool) := cReader_readPermissions_J41 v1_40 v2_40 v3_40 false S_40
def cReader_readPermissions (x1 : Nat) (S : CS) : Option (CS × Bool) := ((cTokens_skip 126 S).bind fun q6 => ((cTokens_skip 42 q6.1).bind fun q16 => (if q16.2 = true then cReader_readPermissions_J40 x1 q6.2 q16.2 q16.1 else ((cTokens_skip 123 q16.1).bind fun q30 => (if q30.2 = true then cReader_readPermissions_J41 x1 q6.2 q16.2 true q30.1 else cReader_readPermissions_J40 x1 q6.2 q16.2 q30.1)))))
set_option maxHeartbeats 4000000 in
set_option maxRecDepth 100000 in
theorem M_cReader_readPermissions {l : Launch} {D : va_G} {cA : Nat → ClassId} {b : Nat} {ad : Nat → Nat} {x1 : Nat} {S : CS} {T : MS × (Nat → Int64)} {rr : (CS × Bool)} (hk1 : kd x1 = 14) (h : cReader_readPermissions x1 S = some rr) : Met l y_cReader_readPermissions (Cond.code y_cReader_readPermissions prog_7_method_19_code 7 (Option.some Jvm.ClassFile.FieldType.boolean) :: TW) { frames := 2, cells := 0, slots := 0, locals := 46 } (va_Pc [.ref (b + 2), .ref (b + x1)] (Rp D cA b ad (S, T))) (Qr D cA b ad (rr.1, T) (some (.int (bI rr.2)))) 0 0 (Ab b) := by
  refine Ct_of (by decide) (Nat.le_of_ble_eq_true rfl) ?_
  intro p e R s m args below meth c ls Q H locs hR hQ hx hb hts hown hml hr hlk hC hX hS hl
  have hRf : R.frames = 2 := by rw [hR]
  have hRl : R.locals = 46 := by rw [hR]
  have hown : s.vm.findClass "TypeGuard$Reader" = some m.cls := hown
  have hl : lv_has ls 7 [(0, .ref (b + 2)), (1, .ref (b + x1))] := hl
  rw [cReader_readPermissions] at h
  refine lv_aload_n hx hb d_cReader_readPermissions_0 rfl (lv_at hl 0 rfl) ?_
  refine c_get_2_0 hx hb hts hown hC hX (by rfl) (hts _ t_227) d_cReader_readPermissions_1 ?_
  refine lv_bipush (v := 126) hx hb d_cReader_readPermissions_4 (by decide) ?_
  obtain ⟨q6, hc6, h⟩ := Option.bind_eq_some_iff.mp h
  refine ck_V (As := [.int 126]) (rest := []) (st1 := [.int (bI q6.2)]) (M_cTokens_skip  hc6) t_599 t_600 t_601 t_602 t_3 hx hb hts hown hC hX hS (hrc_c3 hC hX (by rfl)) hml hl.1 ⟨by rw [hRf]; decide, by rw [hRl]; decide⟩ ⟨rfl, rfl⟩ (n := 1) (by decide +kernel) rfl rfl rfl (lv_room (Nat.le_of_ble_eq_true rfl)) d_cReader_readPermissions_6 (fun H locs hX hS => ?_)
  refine lv_istore_n (lv' := [(2, .int (bI q6.2)), (0, .ref (b + 2)), (1, .ref (b + x1))]) hx hb d_cReader_readPermissions_9 rfl hl (by decide) rfl (fun ls hl => ?_)
  refine lv_aload_n hx hb d_cReader_readPermissions_10 rfl (lv_at hl 1 rfl) ?_
  refine c_get_2_0 hx hb hts hown hC hX (by rfl) (hts _ t_227) d_cReader_readPermissions_11 ?_
  refine lv_bipush (v := 42) hx hb d_cReader_readPermissions_14 (by decide) ?_
  obtain ⟨q16, hc16, h⟩ := Option.bind_eq_some_iff.mp h
  refine ck_V (As := [.int 42]) (rest := []) (st1 := [.int (bI q16.2)]) (M_cTokens_skip  hc16) t_599 t_600 t_601 t_602 t_3 hx hb hts hown hC hX hS (hrc_c3 hC hX (by rfl)) hml hl.1 ⟨by rw [hRf]; decide, by rw [hRl]; decide⟩ ⟨rfl, rfl⟩ (n := 1) (by decide +kernel) rfl rfl rfl (lv_room (Nat.le_of_ble_eq_true rfl)) d_cReader_readPermissions_16 (fun H locs hX hS => ?_)
  refine lv_istore_n (lv' := [(3, .int (bI q16.2)), (2, .int (bI q6.2)), (0, .ref (b + 2)), (1, .ref (b + x1))]) hx hb d_cReader_readPermissions_19 rfl hl (by decide) rfl (fun ls hl => ?_)
  refine lv_iload_n hx hb d_cReader_readPermissions_20 rfl (lv_at hl 0 rfl) ?_
  have J41 : ∀ (s0_41 : Bool) (S_41 : CS) (H : Heap) (locs : List Loc) (ls : Array Slot), hp D cA b ad (S_41, T) H → va_S (Ab b) s.heap H locs → lv_has ls 7 [(0, .ref (b + 2)), (1, .ref (b + x1)), (2, .int (bI q6.2)), (3, .int (bI q16.2))] → cReader_readPermissions_J41 x1 q6.2 q16.2 s0_41 S_41 = some rr → W p l e R s m args below meth c H locs 0 0 Q (F0 m 41 ls [.int (bI s0_41)]) := by
    intro s0_41 S_41 H locs ls  hX hS hl h
    rw [cReader_readPermissions_J41] at h
    refine lv_istore (lv' := [(4, .int (bI s0_41)), (0, .ref (b + 2)), (1, .ref (b + x1)), (2, .int (bI q6.2)), (3, .int (bI q16.2))]) hx hb d_cReader_readPermissions_41 hl (by decide) rfl (fun ls hl => ?_)
    refine lv_iload_n hx hb d_cReader_readPermissions_43 rfl (lv_at hl 4 rfl) ?_
    refine lz_ifne hx hb d_cReader_readPermissions_44 (tgt := 51) (by decide) (fun hc => ?_) (fun hc => ?_)
    · rw [if_pos hc] at h
      refine lv_iconst (v := 0) hx hb d_cReader_readPermissions_51 (by decide) ?_
      refine lv_istore (lv' := [(5, .int (bI false)), (4, .int (bI s0_41)), (0, .ref (b + 2)), (1, .ref (b + x1)), (2, .int (bI q6.2)), (3, .int (bI q16.2))]) hx hb d_cReader_readPermissions_52 hl (by decide) rfl (fun ls hl => ?_)
      refine lv_iconst (v := 0) hx hb d_cReader_readPermissions_54 (by decide) ?_
      refine lv_istore (lv' := [(6, .int 0), (5, .int (bI false)), (4, .int (bI s0_41)), (0, .ref (b + 2)), (1, .ref (b + x1)), (2, .int (bI q6.2)), (3, .int (bI q16.2))]) hx hb d_cReader_readPermissions_55 hl (by decide) rfl (fun ls hl => ?_)
      have L57 : ∀ (n57 : Nat) (v5_57 : Bool) (v6_57 : Int32) (S_57 : CS) (H : Heap) (locs : List Loc) (ls : Array Slot), hp D cA b ad (S_57, T) H → va_S (Ab b) s.heap H locs → lv_has ls 7 [(0, .ref (b + 2)), (1, .ref (b + x1)), (2, .int (bI q6.2)), (3, .int (bI q16.2)), (4, .int (bI s0_41)), (5, .int (bI v5_57)), (6, .int v6_57)] → cReader_readPermissions_L57 x1 q6.2 q16.2 s0_41 n57 v5_57 v6_57 S_57 = some rr → W p l e R s m args below meth c H locs 0 0 Q (F0 m 57 ls []) := by
        intro n57; induction n57 with
        | zero => intro v5_57 v6_57 S_57 H locs ls  hX hS hl h; rw [cReader_readPermissions_L57] at h; cases h
        | succ n57 ih57 =>
          intro v5_57 v6_57 S_57 H locs ls  hX hS hl h
          rw [cReader_readPermissions_L57] at h
          refine lv_iload hx hb d_cReader_readPermissions_57 (lv_at hl 5 rfl) ?_
          have J110 : ∀  (H : Heap) (locs : List Loc) (ls : Array Slot), hp D cA b ad (S_57, T) H → va_S (Ab b) s.heap H locs → lv_has ls 7 [(0, .ref (b + 2)), (1, .ref (b + x1)), (2, .int (bI q6.2)), (3, .int (bI q16.2))] → cReader_readPermissions_J110 x1 q6.2 q16.2 S_57 = some rr → W p l e R s m args below meth c H locs 0 0 Q (F0 m 110 ls []) := by
            intro  H locs ls  hX hS hl h
            rw [cReader_readPermissions_J110] at h
            refine lv_iload_n hx hb d_cReader_readPermissions_110 rfl (lv_at hl 2 rfl) ?_
            refine lv_iload_n hx hb d_cReader_readPermissions_111 rfl (lv_at hl 3 rfl) ?_
            refine lv_icmp_eq hx hb d_cReader_readPermissions_112 (tgt := 120) (by decide) (fun hc => ?_) (fun hc => ?_)
            · rw [if_pos hc] at h
              refine lv_iconst (v := 1) hx hb d_cReader_readPermissions_120 (by decide) ?_
              obtain rfl := Option.some.inj h
              exact rt_zt hQ hx hb hr hX hS hlk d_cReader_readPermissions_121
            · rw [if_neg hc] at h
              refine lv_aload_n hx hb d_cReader_readPermissions_115 rfl (lv_at hl 0 rfl) ?_
              refine lv_aload_n hx hb d_cReader_readPermissions_116 rfl (lv_at hl 1 rfl) ?_
              obtain ⟨q117, hc117, h⟩ := Option.bind_eq_some_iff.mp h
              refine ck_V (As := [.ref (b + x1)]) (rest := []) (st1 := []) (M_cReader_invertPermissions hk1 hc117) t_653 t_655 p_17 t_656 t_2 hx hb hts hown hC hX hS (hrc_c2 hC hX (by rfl)) hml hl.1 ⟨by rw [hRf]; decide, by rw [hRl]; decide⟩ ⟨rfl, rfl⟩ (n := 1) (by decide +kernel) rfl rfl rfl (lv_room (Nat.le_of_ble_eq_true rfl)) d_cReader_readPermissions_117 (fun H locs hX hS => ?_)
              refine lv_iconst (v := 1) hx hb d_cReader_readPermissions_120 (by decide) ?_
              obtain rfl := Option.some.inj h
              exact rt_zt hQ hx hb hr hX hS hlk d_cReader_readPermissions_121
          refine lz_ifeq hx hb d_cReader_readPermissions_59 (tgt := 110) (by decide) (fun hc => ?_) (fun hc => ?_)
          · rw [if_neg hc] at h
            exact J110  H locs ls  hX hS (lv_sub hl [0, 1, 2, 3] rfl) h
          · rw [if_pos hc] at h
            refine lv_iload hx hb d_cReader_readPermissions_62 (lv_at hl 6 rfl) ?_
            refine lv_sipush (v := 480) hx hb d_cReader_readPermissions_64 (by decide) ?_
            refine lv_icmp_ge hx hb d_cReader_readPermissions_67 (tgt := 110) (by decide) (fun hc => ?_) (fun hc => ?_)
            · rw [if_pos hc] at h
              exact J110  H locs ls  hX hS (lv_sub hl [0, 1, 2, 3] rfl) h
            · rw [if_neg hc] at h
              refine lv_aload_n hx hb d_cReader_readPermissions_70 rfl (lv_at hl 0 rfl) ?_
              refine lv_aload_n hx hb d_cReader_readPermissions_71 rfl (lv_at hl 1 rfl) ?_
              obtain ⟨q72, hc72, h⟩ := Option.bind_eq_some_iff.mp h
              refine ck_V (As := [.ref (b + x1)]) (rest := []) (st1 := [.int (bI q72.2)]) (M_cReader_readPermissionName hk1 hc72) t_646 t_648 p_16 t_649 t_2 hx hb hts hown hC hX hS (hrc_c2 hC hX (by rfl)) hml hl.1 ⟨by rw [hRf]; decide, by rw [hRl]; decide⟩ ⟨rfl, rfl⟩ (n := 1) (by decide +kernel) rfl rfl rfl (lv_room (Nat.le_of_ble_eq_true rfl)) d_cReader_readPermissions_72 (fun H locs hX hS => ?_)
              refine lz_ifne hx hb d_cReader_readPermissions_75 (tgt := 80) (by decide) (fun hc => ?_) (fun hc => ?_)
              · rw [if_pos hc] at h
                refine lv_iload hx hb d_cReader_readPermissions_80 (lv_at hl 4 rfl) ?_
                refine lz_ifeq hx hb d_cReader_readPermissions_82 (tgt := 101) (by decide) (fun hc => ?_) (fun hc => ?_)
                · rw [if_neg hc] at h
                  refine lv_iconst (v := 0) hx hb d_cReader_readPermissions_101 (by decide) ?_
                  refine lv_istore (lv' := [(5, .int (bI false)), (0, .ref (b + 2)), (1, .ref (b + x1)), (2, .int (bI q6.2)), (3, .int (bI q16.2)), (4, .int (bI s0_41)), (6, .int v6_57)]) hx hb d_cReader_readPermissions_102 hl (by decide) rfl (fun ls hl => ?_)
                  obtain ⟨a104, e104, h⟩ := bd_some h
                  refine lv_iinc (v := a104) (lv' := [(6, .int a104), (5, .int (bI false)), (0, .ref (b + 2)), (1, .ref (b + x1)), (2, .int (bI q6.2)), (3, .int (bI q16.2)), (4, .int (bI s0_41))]) hx hb d_cReader_readPermissions_104 hl (k := 6) rfl e104.symm (by decide) rfl (fun ls hl => ?_)
                  refine lv_goto hx hb d_cReader_readPermissions_107 (tgt := 57) (by decide) ?_
                  exact ih57 false a104 q72.1 H locs ls  hX hS (lv_sub hl [2, 3, 4, 5, 6, 1, 0] rfl) h
                · rw [if_pos hc] at h
                  refine lv_aload_n hx hb d_cReader_readPermissions_85 rfl (lv_at hl 0 rfl) ?_
                  refine c_get_2_0 hx hb hts hown hC hX (by rfl) (hts _ t_227) d_cReader_readPermissions_86 ?_
                  refine lv_bipush (v := 125) hx hb d_cReader_readPermissions_89 (by decide) ?_
                  obtain ⟨q91, hc91, h⟩ := Option.bind_eq_some_iff.mp h
                  refine ck_V (As := [.int 125]) (rest := []) (st1 := [.int (bI q91.2)]) (M_cTokens_skip  hc91) t_599 t_600 t_601 t_602 t_3 hx hb hts hown hC hX hS (hrc_c3 hC hX (by rfl)) hml hl.1 ⟨by rw [hRf]; decide, by rw [hRl]; decide⟩ ⟨rfl, rfl⟩ (n := 1) (by decide +kernel) rfl rfl rfl (lv_room (Nat.le_of_ble_eq_true rfl)) d_cReader_readPermissions_91 (fun H locs hX hS => ?_)
                  refine lz_ifne hx hb d_cReader_readPermissions_94 (tgt := 101) (by decide) (fun hc => ?_) (fun hc => ?_)
                  · rw [if_pos hc] at h
                    refine lv_iconst (v := 0) hx hb d_cReader_readPermissions_101 (by decide) ?_
                    refine lv_istore (lv' := [(5, .int (bI false)), (0, .ref (b + 2)), (1, .ref (b + x1)), (2, .int (bI q6.2)), (3, .int (bI q16.2)), (4, .int (bI s0_41)), (6, .int v6_57)]) hx hb d_cReader_readPermissions_102 hl (by decide) rfl (fun ls hl => ?_)
                    obtain ⟨a104, e104, h⟩ := bd_some h
                    refine lv_iinc (v := a104) (lv' := [(6, .int a104), (5, .int (bI false)), (0, .ref (b + 2)), (1, .ref (b + x1)), (2, .int (bI q6.2)), (3, .int (bI q16.2)), (4, .int (bI s0_41))]) hx hb d_cReader_readPermissions_104 hl (k := 6) rfl e104.symm (by decide) rfl (fun ls hl => ?_)
                    refine lv_goto hx hb d_cReader_readPermissions_107 (tgt := 57) (by decide) ?_
                    exact ih57 false a104 q91.1 H locs ls  hX hS (lv_sub hl [2, 3, 4, 5, 6, 1, 0] rfl) h
                  · rw [if_neg hc] at h
                    refine lv_iconst (v := 1) hx hb d_cReader_readPermissions_97 (by decide) ?_
                    refine lv_goto hx hb d_cReader_readPermissions_98 (tgt := 102) (by decide) ?_
                    refine lv_istore (lv' := [(5, .int (bI true)), (0, .ref (b + 2)), (1, .ref (b + x1)), (2, .int (bI q6.2)), (3, .int (bI q16.2)), (4, .int (bI s0_41)), (6, .int v6_57)]) hx hb d_cReader_readPermissions_102 hl (by decide) rfl (fun ls hl => ?_)
                    obtain ⟨a104, e104, h⟩ := bd_some h
                    refine lv_iinc (v := a104) (lv' := [(6, .int a104), (5, .int (bI true)), (0, .ref (b + 2)), (1, .ref (b + x1)), (2, .int (bI q6.2)), (3, .int (bI q16.2)), (4, .int (bI s0_41))]) hx hb d_cReader_readPermissions_104 hl (k := 6) rfl e104.symm (by decide) rfl (fun ls hl => ?_)
                    refine lv_goto hx hb d_cReader_readPermissions_107 (tgt := 57) (by decide) ?_
                    exact ih57 true a104 q91.1 H locs ls  hX hS (lv_sub hl [2, 3, 4, 5, 6, 1, 0] rfl) h
              · rw [if_neg hc] at h
                refine lv_iconst (v := 0) hx hb d_cReader_readPermissions_78 (by decide) ?_
                obtain rfl := Option.some.inj h
                exact rt_zf hQ hx hb hr hX hS hlk d_cReader_readPermissions_79
      exact L57 600 false 0 S_41 H locs ls  hX hS (lv_sub hl [3, 4, 5, 6, 2, 1, 0] rfl) h
    · rw [if_neg hc] at h
      refine lv_iconst (v := 1) hx hb d_cReader_readPermissions_47 (by decide) ?_
      refine lv_goto hx hb d_cReader_readPermissions_48 (tgt := 52) (by decide) ?_
      refine lv_istore (lv' := [(5, .int (bI true)), (4, .int (bI s0_41)), (0, .ref (b + 2)), (1, .ref (b + x1)), (2, .int (bI q6.2)), (3, .int (bI q16.2))]) hx hb d_cReader_readPermissions_52 hl (by decide) rfl (fun ls hl => ?_)
      refine lv_iconst (v := 0) hx hb d_cReader_readPermissions_54 (by decide) ?_
      refine lv_istore (lv' := [(6, .int 0), (5, .int (bI true)), (4, .int (bI s0_41)), (0, .ref (b + 2)), (1, .ref (b + x1)), (2, .int (bI q6.2)), (3, .int (bI q16.2))]) hx hb d_cReader_readPermissions_55 hl (by decide) rfl (fun ls hl => ?_)
      have L57 : ∀ (n57 : Nat) (v5_57 : Bool) (v6_57 : Int32) (S_57 : CS) (H : Heap) (locs : List Loc) (ls : Array Slot), hp D cA b ad (S_57, T) H → va_S (Ab b) s.heap H locs → lv_has ls 7 [(0, .ref (b + 2)), (1, .ref (b + x1)), (2, .int (bI q6.2)), (3, .int (bI q16.2)), (4, .int (bI s0_41)), (5, .int (bI v5_57)), (6, .int v6_57)] → cReader_readPermissions_L57 x1 q6.2 q16.2 s0_41 n57 v5_57 v6_57 S_57 = some rr → W p l e R s m args below meth c H locs 0 0 Q (F0 m 57 ls []) := by
        intro n57; induction n57 with
        | zero => intro v5_57 v6_57 S_57 H locs ls  hX hS hl h; rw [cReader_readPermissions_L57] at h; cases h
        | succ n57 ih57 =>
          intro v5_57 v6_57 S_57 H locs ls  hX hS hl h
          rw [cReader_readPermissions_L57] at h
          refine lv_iload hx hb d_cReader_readPermissions_57 (lv_at hl 5 rfl) ?_
          have J110 : ∀  (H : Heap) (locs : List Loc) (ls : Array Slot), hp D cA b ad (S_57, T) H → va_S (Ab b) s.heap H locs → lv_has ls 7 [(0, .ref (b + 2)), (1, .ref (b + x1)), (2, .int (bI q6.2)), (3, .int (bI q16.2))] → cReader_readPermissions_J110 x1 q6.2 q16.2 S_57 = some rr → W p l e R s m args below meth c H locs 0 0 Q (F0 m 110 ls []) := by
            intro  H locs ls  hX hS hl h
            rw [cReader_readPermissions_J110] at h
            refine lv_iload_n hx hb d_cReader_readPermissions_110 rfl (lv_at hl 2 rfl) ?_
            refine lv_iload_n hx hb d_cReader_readPermissions_111 rfl (lv_at hl 3 rfl) ?_
            refine lv_icmp_eq hx hb d_cReader_readPermissions_112 (tgt := 120) (by decide) (fun hc => ?_) (fun hc => ?_)
            · rw [if_pos hc] at h
              refine lv_iconst (v := 1) hx hb d_cReader_readPermissions_120 (by decide) ?_
              obtain rfl := Option.some.inj h
              exact rt_zt hQ hx hb hr hX hS hlk d_cReader_readPermissions_121
            · rw [if_neg hc] at h
              refine lv_aload_n hx hb d_cReader_readPermissions_115 rfl (lv_at hl 0 rfl) ?_
              refine lv_aload_n hx hb d_cReader_readPermissions_116 rfl (lv_at hl 1 rfl) ?_
              obtain ⟨q117, hc117, h⟩ := Option.bind_eq_some_iff.mp h
              refine ck_V (As := [.ref (b + x1)]) (rest := []) (st1 := []) (M_cReader_invertPermissions hk1 hc117) t_653 t_655 p_17 t_656 t_2 hx hb hts hown hC hX hS (hrc_c2 hC hX (by rfl)) hml hl.1 ⟨by rw [hRf]; decide, by rw [hRl]; decide⟩ ⟨rfl, rfl⟩ (n := 1) (by decide +kernel) rfl rfl rfl (lv_room (Nat.le_of_ble_eq_true rfl)) d_cReader_readPermissions_117 (fun H locs hX hS => ?_)
              refine lv_iconst (v := 1) hx hb d_cReader_readPermissions_120 (by decide) ?_
              obtain rfl := Option.some.inj h
              exact rt_zt hQ hx hb hr hX hS hlk d_cReader_readPermissions_121
          refine lz_ifeq hx hb d_cReader_readPermissions_59 (tgt := 110) (by decide) (fun hc => ?_) (fun hc => ?_)
          · rw [if_neg hc] at h
            exact J110  H locs ls  hX hS (lv_sub hl [0, 1, 2, 3] rfl) h
          · rw [if_pos hc] at h
            refine lv_iload hx hb d_cReader_readPermissions_62 (lv_at hl 6 rfl) ?_
            refine lv_sipush (v := 480) hx hb d_cReader_readPermissions_64 (by decide) ?_
            refine lv_icmp_ge hx hb d_cReader_readPermissions_67 (tgt := 110) (by decide) (fun hc => ?_) (fun hc => ?_)
            · rw [if_pos hc] at h
              exact J110  H locs ls  hX hS (lv_sub hl [0, 1, 2, 3] rfl) h
            · rw [if_neg hc] at h
              refine lv_aload_n hx hb d_cReader_readPermissions_70 rfl (lv_at hl 0 rfl) ?_
              refine lv_aload_n hx hb d_cReader_readPermissions_71 rfl (lv_at hl 1 rfl) ?_
              obtain ⟨q72, hc72, h⟩ := Option.bind_eq_some_iff.mp h
              refine ck_V (As := [.ref (b + x1)]) (rest := []) (st1 := [.int (bI q72.2)]) (M_cReader_readPermissionName hk1 hc72) t_646 t_648 p_16 t_649 t_2 hx hb hts hown hC hX hS (hrc_c2 hC hX (by rfl)) hml hl.1 ⟨by rw [hRf]; decide, by rw [hRl]; decide⟩ ⟨rfl, rfl⟩ (n := 1) (by decide +kernel) rfl rfl rfl (lv_room (Nat.le_of_ble_eq_true rfl)) d_cReader_readPermissions_72 (fun H locs hX hS => ?_)
              refine lz_ifne hx hb d_cReader_readPermissions_75 (tgt := 80) (by decide) (fun hc => ?_) (fun hc => ?_)
              · rw [if_pos hc] at h
                refine lv_iload hx hb d_cReader_readPermissions_80 (lv_at hl 4 rfl) ?_
                refine lz_ifeq hx hb d_cReader_readPermissions_82 (tgt := 101) (by decide) (fun hc => ?_) (fun hc => ?_)
                · rw [if_neg hc] at h
                  refine lv_iconst (v := 0) hx hb d_cReader_readPermissions_101 (by decide) ?_
                  refine lv_istore (lv' := [(5, .int (bI false)), (0, .ref (b + 2)), (1, .ref (b + x1)), (2, .int (bI q6.2)), (3, .int (bI q16.2)), (4, .int (bI s0_41)), (6, .int v6_57)]) hx hb d_cReader_readPermissions_102 hl (by decide) rfl (fun ls hl => ?_)
                  obtain ⟨a104, e104, h⟩ := bd_some h
                  refine lv_iinc (v := a104) (lv' := [(6, .int a104), (5, .int (bI false)), (0, .ref (b + 2)), (1, .ref (b + x1)), (2, .int (bI q6.2)), (3, .int (bI q16.2)), (4, .int (bI s0_41))]) hx hb d_cReader_readPermissions_104 hl (k := 6) rfl e104.symm (by decide) rfl (fun ls hl => ?_)
                  refine lv_goto hx hb d_cReader_readPermissions_107 (tgt := 57) (by decide) ?_
                  exact ih57 false a104 q72.1 H locs ls  hX hS (lv_sub hl [2, 3, 4, 5, 6, 1, 0] rfl) h
                · rw [if_pos hc] at h
                  refine lv_aload_n hx hb d_cReader_readPermissions_85 rfl (lv_at hl 0 rfl) ?_
                  refine c_get_2_0 hx hb hts hown hC hX (by rfl) (hts _ t_227) d_cReader_readPermissions_86 ?_
                  refine lv_bipush (v := 125) hx hb d_cReader_readPermissions_89 (by decide) ?_
                  obtain ⟨q91, hc91, h⟩ := Option.bind_eq_some_iff.mp h
                  refine ck_V (As := [.int 125]) (rest := []) (st1 := [.int (bI q91.2)]) (M_cTokens_skip  hc91) t_599 t_600 t_601 t_602 t_3 hx hb hts hown hC hX hS (hrc_c3 hC hX (by rfl)) hml hl.1 ⟨by rw [hRf]; decide, by rw [hRl]; decide⟩ ⟨rfl, rfl⟩ (n := 1) (by decide +kernel) rfl rfl rfl (lv_room (Nat.le_of_ble_eq_true rfl)) d_cReader_readPermissions_91 (fun H locs hX hS => ?_)
                  refine lz_ifne hx hb d_cReader_readPermissions_94 (tgt := 101) (by decide) (fun hc => ?_) (fun hc => ?_)
                  · rw [if_pos hc] at h
                    refine lv_iconst (v := 0) hx hb d_cReader_readPermissions_101 (by decide) ?_
                    refine lv_istore (lv' := [(5, .int (bI false)), (0, .ref (b + 2)), (1, .ref (b + x1)), (2, .int (bI q6.2)), (3, .int (bI q16.2)), (4, .int (bI s0_41)), (6, .int v6_57)]) hx hb d_cReader_readPermissions_102 hl (by decide) rfl (fun ls hl => ?_)
                    obtain ⟨a104, e104, h⟩ := bd_some h
                    refine lv_iinc (v := a104) (lv' := [(6, .int a104), (5, .int (bI false)), (0, .ref (b + 2)), (1, .ref (b + x1)), (2, .int (bI q6.2)), (3, .int (bI q16.2)), (4, .int (bI s0_41))]) hx hb d_cReader_readPermissions_104 hl (k := 6) rfl e104.symm (by decide) rfl (fun ls hl => ?_)
                    refine lv_goto hx hb d_cReader_readPermissions_107 (tgt := 57) (by decide) ?_
                    exact ih57 false a104 q91.1 H locs ls  hX hS (lv_sub hl [2, 3, 4, 5, 6, 1, 0] rfl) h
                  · rw [if_neg hc] at h
                    refine lv_iconst (v := 1) hx hb d_cReader_readPermissions_97 (by decide) ?_
                    refine lv_goto hx hb d_cReader_readPermissions_98 (tgt := 102) (by decide) ?_
                    refine lv_istore (lv' := [(5, .int (bI true)), (0, .ref (b + 2)), (1, .ref (b + x1)), (2, .int (bI q6.2)), (3, .int (bI q16.2)), (4, .int (bI s0_41)), (6, .int v6_57)]) hx hb d_cReader_readPermissions_102 hl (by decide) rfl (fun ls hl => ?_)
                    obtain ⟨a104, e104, h⟩ := bd_some h
                    refine lv_iinc (v := a104) (lv' := [(6, .int a104), (5, .int (bI true)), (0, .ref (b + 2)), (1, .ref (b + x1)), (2, .int (bI q6.2)), (3, .int (bI q16.2)), (4, .int (bI s0_41))]) hx hb d_cReader_readPermissions_104 hl (k := 6) rfl e104.symm (by decide) rfl (fun ls hl => ?_)
                    refine lv_goto hx hb d_cReader_readPermissions_107 (tgt := 57) (by decide) ?_
                    exact ih57 true a104 q91.1 H locs ls  hX hS (lv_sub hl [2, 3, 4, 5, 6, 1, 0] rfl) h
              · rw [if_neg hc] at h
                refine lv_iconst (v := 0) hx hb d_cReader_readPermissions_78 (by decide) ?_
                obtain rfl := Option.some.inj h
                exact rt_zf hQ hx hb hr hX hS hlk d_cReader_readPermissions_79
      exact L57 600 true 0 S_41 H locs ls  hX hS (lv_sub hl [3, 4, 5, 6, 2, 1, 0] rfl) h
  have J40 : ∀ (S_40 : CS) (H : Heap) (locs : List Loc) (ls : Array Slot), hp D cA b ad (S_40, T) H → va_S (Ab b) s.heap H locs → lv_has ls 7 [(0, .ref (b + 2)), (1, .ref (b + x1)), (2, .int (bI q6.2)), (3, .int (bI q16.2))] → cReader_readPermissions_J40 x1 q6.2 q16.2 S_40 = some rr → W p l e R s m args below meth c H locs 0 0 Q (F0 m 40 ls []) := by
    intro S_40 H locs ls  hX hS hl h
    rw [cReader_readPermissions_J40] at h
    refine lv_iconst (v := 0) hx hb d_cReader_readPermissions_40 (by decide) ?_
    exact J41 false S_40 H locs ls  hX hS (lv_sub hl [0, 1, 2, 3] rfl) h
  refine lz_ifne hx hb d_cReader_readPermissions_21 (tgt := 40) (by decide) (fun hc => ?_) (fun hc => ?_)
  · rw [if_pos hc] at h
    exact J40 q16.1 H locs ls  hX hS (lv_sub hl [2, 3, 1, 0] rfl) h
  · rw [if_neg hc] at h
    refine lv_aload_n hx hb d_cReader_readPermissions_24 rfl (lv_at hl 2 rfl) ?_
    refine c_get_2_0 hx hb hts hown hC hX (by rfl) (hts _ t_227) d_cReader_readPermissions_25 ?_
    refine lv_bipush (v := 123) hx hb d_cReader_readPermissions_28 (by decide) ?_
    obtain ⟨q30, hc30, h⟩ := Option.bind_eq_some_iff.mp h
    refine ck_V (As := [.int 123]) (rest := []) (st1 := [.int (bI q30.2)]) (M_cTokens_skip  hc30) t_599 t_600 t_601 t_602 t_3 hx hb hts hown hC hX hS (hrc_c3 hC hX (by rfl)) hml hl.1 ⟨by rw [hRf]; decide, by rw [hRl]; decide⟩ ⟨rfl, rfl⟩ (n := 1) (by decide +kernel) rfl rfl rfl (lv_room (Nat.le_of_ble_eq_true rfl)) d_cReader_readPermissions_30 (fun H locs hX hS => ?_)
    refine lz_ifeq hx hb d_cReader_readPermissions_33 (tgt := 40) (by decide) (fun hc => ?_) (fun hc => ?_)
    · rw [if_neg hc] at h
      exact J40 q30.1 H locs ls  hX hS (lv_sub hl [2, 3, 1, 0] rfl) h
    · rw [if_pos hc] at h
      refine lv_iconst (v := 1) hx hb d_cReader_readPermissions_36 (by decide) ?_
      refine lv_goto hx hb d_cReader_readPermissions_37 (tgt := 41) (by decide) ?_
      exact J41 true q30.1 H locs ls  hX hS (lv_sub hl [2, 3, 1, 0] rfl) h
abbrev y_cReader_readRule : MethodName := ({ cls := "TypeGuard$Reader", name := "readRule", desc := "(LTypeGuard$Word;)Z" } : Jvm.MethodName)
theorem d_cReader_readRule_0 : decode prog_7_method_14_code 0 = .ok (.aload_n 0, 1) := by decide +kernel
theorem d_cReader_readRule_1 : decode prog_7_method_14_code 1 = .ok (.getfield 21, 3) := by decide +kernel
theorem d_cReader_readRule_4 : decode prog_7_method_14_code 4 = .ok (.getfield 63, 3) := by decide +kernel
theorem d_cReader_readRule_7 : decode prog_7_method_14_code 7 = .ok (.bipush 24, 2) := by decide +kernel
theorem d_cReader_readRule_9 : decode prog_7_method_14_code 9 = .ok (.if_icmp .lt 9, 3) := by decide +kernel
theorem d_cReader_readRule_12 : decode prog_7_method_14_code 12 = .ok (.aload_n 0, 1) := by decide +kernel
theorem d_cReader_readRule_13 : decode prog_7_method_14_code 13 = .ok (.iconst 4, 1) := by decide +kernel
theorem d_cReader_readRule_14 : decode prog_7_method_14_code 14 = .ok (.invokevirtual 125, 3) := by decide +kernel
theorem d_cReader_readRule_17 : decode prog_7_method_14_code 17 = .ok (.ireturn, 1) := by decide +kernel
theorem d_cReader_readRule_18 : decode prog_7_method_14_code 18 = .ok (.aload_n 0, 1) := by decide +kernel
theorem d_cReader_readRule_19 : decode prog_7_method_14_code 19 = .ok (.getfield 21, 3) := by decide +kernel
theorem d_cReader_readRule_22 : decode prog_7_method_14_code 22 = .ok (.getfield 66, 3) := by decide +kernel
theorem d_cReader_readRule_25 : decode prog_7_method_14_code 25 = .ok (.aload_n 0, 1) := by decide +kernel
theorem d_cReader_readRule_26 : decode prog_7_method_14_code 26 = .ok (.getfield 21, 3) := by decide +kernel
theorem d_cReader_readRule_29 : decode prog_7_method_14_code 29 = .ok (.getfield 63, 3) := by decide +kernel
theorem d_cReader_readRule_32 : decode prog_7_method_14_code 32 = .ok (.aaload, 1) := by decide +kernel
theorem d_cReader_readRule_33 : decode prog_7_method_14_code 33 = .ok (.astore_n 2, 1) := by decide +kernel
theorem d_cReader_readRule_34 : decode prog_7_method_14_code 34 = .ok (.aload_n 0, 1) := by decide +kernel
theorem d_cReader_readRule_35 : decode prog_7_method_14_code 35 = .ok (.getfield 21, 3) := by decide +kernel
theorem d_cReader_readRule_38 : decode prog_7_method_14_code 38 = .ok (.dup, 1) := by decide +kernel
theorem d_cReader_readRule_39 : decode prog_7_method_14_code 39 = .ok (.getfield 63, 3) := by decide +kernel
theorem d_cReader_readRule_42 : decode prog_7_method_14_code 42 = .ok (.iconst 1, 1) := by decide +kernel
theorem d_cReader_readRule_43 : decode prog_7_method_14_code 43 = .ok (.iadd, 1) := by decide +kernel
theorem d_cReader_readRule_44 : decode prog_7_method_14_code 44 = .ok (.putfield 63, 3) := by decide +kernel
theorem d_cReader_readRule_47 : decode prog_7_method_14_code 47 = .ok (.aload_n 2, 1) := by decide +kernel
theorem d_cReader_readRule_48 : decode prog_7_method_14_code 48 = .ok (.aload_n 1, 1) := by decide +kernel
theorem d_cReader_readRule_49 : decode prog_7_method_14_code 49 = .ok (.aload_n 0, 1) := by decide +kernel
theorem d_cReader_readRule_50 : decode prog_7_method_14_code 50 = .ok (.getfield 12, 3) := by decide +kernel
theorem d_cReader_readRule_53 : decode prog_7_method_14_code 53 = .ok (.invokevirtual 49, 3) := by decide +kernel
theorem d_cReader_readRule_56 : decode prog_7_method_14_code 56 = .ok (.aload_n 0, 1) := by decide +kernel
theorem d_cReader_readRule_57 : decode prog_7_method_14_code 57 = .ok (.getfield 32, 3) := by decide +kernel
theorem d_cReader_readRule_60 : decode prog_7_method_14_code 60 = .ok (.aload_n 0, 1) := by decide +kernel
theorem d_cReader_readRule_61 : decode prog_7_method_14_code 61 = .ok (.getfield 196, 3) := by decide +kernel
theorem d_cReader_readRule_64 : decode prog_7_method_14_code 64 = .ok (.invokevirtual 203, 3) := by decide +kernel
theorem d_cReader_readRule_67 : decode prog_7_method_14_code 67 = .ok (.aload_n 0, 1) := by decide +kernel
theorem d_cReader_readRule_68 : decode prog_7_method_14_code 68 = .ok (.getfield 12, 3) := by decide +kernel
theorem d_cReader_readRule_71 : decode prog_7_method_14_code 71 = .ok (.invokevirtual 129, 3) := by decide +kernel
theorem d_cReader_readRule_74 : decode prog_7_method_14_code 74 = .ok (.aload_n 0, 1) := by decide +kernel
theorem d_cReader_readRule_75 : decode prog_7_method_14_code 75 = .ok (.aload_n 2, 1) := by decide +kernel
theorem d_cReader_readRule_76 : decode prog_7_method_14_code 76 = .ok (.getfield 207, 3) := by decide +kernel
theorem d_cReader_readRule_79 : decode prog_7_method_14_code 79 = .ok (.invokevirtual 211, 3) := by decide +kernel
theorem d_cReader_readRule_82 : decode prog_7_method_14_code 82 = .ok (.ifCond .ne 5, 3) := by decide +kernel
theorem d_cReader_readRule_85 : decode prog_7_method_14_code 85 = .ok (.iconst 0, 1) := by decide +kernel
theorem d_cReader_readRule_86 : decode prog_7_method_14_code 86 = .ok (.ireturn, 1) := by decide +kernel
theorem d_cReader_readRule_87 : decode prog_7_method_14_code 87 = .ok (.aload_n 2, 1) := by decide +kernel
theorem d_cReader_readRule_88 : decode prog_7_method_14_code 88 = .ok (.aload_n 0, 1) := by decide +kernel
theorem d_cReader_readRule_89 : decode prog_7_method_14_code 89 = .ok (.getfield 12, 3) := by decide +kernel
theorem d_cReader_readRule_92 : decode prog_7_method_14_code 92 = .ok (.getstatic 215, 3) := by decide +kernel
theorem d_cReader_readRule_95 : decode prog_7_method_14_code 95 = .ok (.invokevirtual 186, 3) := by decide +kernel
theorem d_cReader_readRule_98 : decode prog_7_method_14_code 98 = .ok (.putfield 218, 3) := by decide +kernel
theorem d_cReader_readRule_101 : decode prog_7_method_14_code 101 = .ok (.aload_n 2, 1) := by decide +kernel
theorem d_cReader_readRule_102 : decode prog_7_method_14_code 102 = .ok (.getfield 218, 3) := by decide +kernel
theorem d_cReader_readRule_105 : decode prog_7_method_14_code 105 = .ok (.ifCond .ne 14, 3) := by decide +kernel
theorem d_cReader_readRule_108 : decode prog_7_method_14_code 108 = .ok (.aload_n 0, 1) := by decide +kernel
theorem d_cReader_readRule_109 : decode prog_7_method_14_code 109 = .ok (.aload_n 2, 1) := by decide +kernel
theorem d_cReader_readRule_110 : decode prog_7_method_14_code 110 = .ok (.getfield 221, 3) := by decide +kernel
theorem d_cReader_readRule_113 : decode prog_7_method_14_code 113 = .ok (.invokevirtual 211, 3) := by decide +kernel
theorem d_cReader_readRule_116 : decode prog_7_method_14_code 116 = .ok (.ifCond .eq 12, 3) := by decide +kernel
theorem d_cReader_readRule_119 : decode prog_7_method_14_code 119 = .ok (.aload_n 0, 1) := by decide +kernel
theorem d_cReader_readRule_120 : decode prog_7_method_14_code 120 = .ok (.bipush 58, 2) := by decide +kernel
theorem d_cReader_readRule_122 : decode prog_7_method_14_code 122 = .ok (.invokevirtual 148, 3) := by decide +kernel
theorem d_cReader_readRule_125 : decode prog_7_method_14_code 125 = .ok (.ifCond .ne 5, 3) := by decide +kernel
theorem d_cReader_readRule_128 : decode prog_7_method_14_code 128 = .ok (.iconst 0, 1) := by decide +kernel
theorem d_cReader_readRule_129 : decode prog_7_method_14_code 129 = .ok (.ireturn, 1) := by decide +kernel
theorem d_cReader_readRule_130 : decode prog_7_method_14_code 130 = .ok (.aload_n 1, 1) := by decide +kernel
theorem d_cReader_readRule_131 : decode prog_7_method_14_code 131 = .ok (.getstatic 224, 3) := by decide +kernel
theorem d_cReader_readRule_134 : decode prog_7_method_14_code 134 = .ok (.if_acmp .ne 11, 3) := by decide +kernel
theorem d_cReader_readRule_137 : decode prog_7_method_14_code 137 = .ok (.aload_n 0, 1) := by decide +kernel
theorem d_cReader_readRule_138 : decode prog_7_method_14_code 138 = .ok (.aload_n 2, 1) := by decide +kernel
theorem d_cReader_readRule_139 : decode prog_7_method_14_code 139 = .ok (.invokevirtual 227, 3) := by decide +kernel
theorem d_cReader_readRule_142 : decode prog_7_method_14_code 142 = .ok (.goto 24, 3) := by decide +kernel
theorem d_cReader_readRule_145 : decode prog_7_method_14_code 145 = .ok (.aload_n 0, 1) := by decide +kernel
theorem d_cReader_readRule_146 : decode prog_7_method_14_code 146 = .ok (.aload_n 2, 1) := by decide +kernel
theorem d_cReader_readRule_147 : decode prog_7_method_14_code 147 = .ok (.invokevirtual 231, 3) := by decide +kernel
theorem d_cReader_readRule_150 : decode prog_7_method_14_code 150 = .ok (.ifCond .eq 15, 3) := by decide +kernel
theorem d_cReader_readRule_153 : decode prog_7_method_14_code 153 = .ok (.aload_n 0, 1) := by decide +kernel
theorem d_cReader_readRule_154 : decode prog_7_method_14_code 154 = .ok (.aload_n 2, 1) := by decide +kernel
theorem d_cReader_readRule_155 : decode prog_7_method_14_code 155 = .ok (.invokevirtual 234, 3) := by decide +kernel
theorem d_cReader_readRule_158 : decode prog_7_method_14_code 158 = .ok (.ifCond .eq 7, 3) := by decide +kernel
theorem d_cReader_readRule_161 : decode prog_7_method_14_code 161 = .ok (.iconst 1, 1) := by decide +kernel
theorem d_cReader_readRule_162 : decode prog_7_method_14_code 162 = .ok (.goto 4, 3) := by decide +kernel
theorem d_cReader_readRule_165 : decode prog_7_method_14_code 165 = .ok (.iconst 0, 1) := by decide +kernel
theorem d_cReader_readRule_166 : decode prog_7_method_14_code 166 = .ok (.istore_n 3, 1) := by decide +kernel
theorem d_cReader_readRule_167 : decode prog_7_method_14_code 167 = .ok (.iload_n 3, 1) := by decide +kernel
theorem d_cReader_readRule_168 : decode prog_7_method_14_code 168 = .ok (.ifCond .eq 16, 3) := by decide +kernel
theorem d_cReader_readRule_171 : decode prog_7_method_14_code 171 = .ok (.aload_n 0, 1) := by decide +kernel
theorem d_cReader_readRule_172 : decode prog_7_method_14_code 172 = .ok (.bipush 59, 2) := by decide +kernel
theorem d_cReader_readRule_174 : decode prog_7_method_14_code 174 = .ok (.invokevirtual 148, 3) := by decide +kernel
theorem d_cReader_readRule_177 : decode prog_7_method_14_code 177 = .ok (.ifCond .eq 7, 3) := by decide +kernel
theorem d_cReader_readRule_180 : decode prog_7_method_14_code 180 = .ok (.iconst 1, 1) := by decide +kernel
theorem d_cReader_readRule_181 : decode prog_7_method_14_code 181 = .ok (.goto 4, 3) := by decide +kernel
theorem d_cReader_readRule_184 : decode prog_7_method_14_code 184 = .ok (.iconst 0, 1) := by decide +kernel
theorem d_cReader_readRule_185 : decode prog_7_method_14_code 185 = .ok (.ireturn, 1) := by decide +kernel
def cReader_readRule_J166 (s0_166 : Bool) (S_166 : CS) : Option (CS × Bool) := (if s0_166 = true then ((cReader_expect 59 S_166).bind fun q174 => (if q174.2 = true then some (q174.1, true) else some (q174.1, false))) else some (S_166, false))
def cReader_readRule_J165 (S_165 : CS) : Option (CS × Bool) := cReader_readRule_J166 false S_165
def cReader_readRule_J119 (v1_119 : Nat) (v2_119 : Nat) (S_119 : CS) : Option (CS × Bool) := ((cReader_expect 58 S_119).bind fun q122 => (if q122.2 = true then (if v1_119 = 9 then ((cReader_readMove v2_119 q122.1).bind fun q139 => cReader_readRule_J166 q139.2 q139.1) else ((cReader_readClasses v2_119 q122.1).bind fun q147 => (if q147.2 = true then ((cReader_readPermissions v2_119 q147.1).bind fun q155 => (if q155.2 = true then cReader_readRule_J166 true q155.1 else cReader_readRule_J165 q155.1)) else cReader_readRule_J165 q147.1))) else some (q122.1, false)))
def cReader_readRule (x1 : Nat) (S : CS) : Option (CS × Bool) := (bd (gR S 2 1) fun r1 => (if kd r1 = 7 then (if (gI S r1 8) < 24 then (bd (gR S 2 1) fun r19 => (if kd r19 = 7 then (bd (gR S 2 1) fun r26 => (if kd r26 = 7 then (if inbd (gI S r26 8) 24 = true then (bd (((r19 + 12) + (9 + 4 * txN (gI S r26 8)))) fun a32 => (bd (gR S 2 1) fun r35 => (if kd r35 = 7 then (bd (pI S r35 8 ((gI S r35 8) + 1)) fun S44 => ((cTokens_place S44).bind fun q53 => ((cRule_begin a32 x1 q53 (gI S44 2 4) (gB S44 2 5) S44).bind fun q64 => ((cTokens_advance q64).bind fun q71 => ((cReader_readTypes (a32 + 1) q71).bind fun q79 => (if q79.2 = true then ((cTokens_skipWord 14 q79.1).bind fun q95 => (bd (pB q95.1 a32 6 q95.2) fun S98 => (if (gB S98 a32 6) = true then cReader_readRule_J119 x1 a32 S98 else ((cReader_readTypes (a32 + 2) S98).bind fun q113 => (if q113.2 = true then cReader_readRule_J119 x1 a32 q113.1 else some (q113.1, false)))))) else some (q79.1, false))))))) else none))) else none) else none)) else none)) else ((cReader_refuse 4 S).bind fun q14 => some (q14.1, q14.2))) else none))
set_option maxHeartbeats 4000000 in
set_option maxRecDepth 100000 in
theorem M_cReader_readRule {l : Launch} {D : va_G} {cA : Nat → ClassId} {b : Nat} {ad : Nat → Nat} {x1 : Nat} {S : CS} {T : MS × (Nat → Int64)} {rr : (CS × Bool)} (hk1 : x1 < 15) (h : cReader_readRule x1 S = some rr) : Met l y_cReader_readRule (Cond.code y_cReader_readRule prog_7_method_14_code 4 (Option.some Jvm.ClassFile.FieldType.boolean) :: TW) { frames := 3, cells := 0, slots := 0, locals := 72 } (va_Pc [.ref (b + 2), .ref (ad x1)] (Rp D cA b ad (S, T))) (Qr D cA b ad (rr.1, T) (some (.int (bI rr.2)))) 0 0 (Ab b) := by
  refine Ct_of (by decide) (Nat.le_of_ble_eq_true rfl) ?_
  intro p e R s m args below meth c ls Q H locs hR hQ hx hb hts hown hml hr hlk hC hX hS hl
  have hRf : R.frames = 3 := by rw [hR]
  have hRl : R.locals = 72 := by rw [hR]
  have hown : s.vm.findClass "TypeGuard$Reader" = some m.cls := hown
  have hl : lv_has ls 4 [(0, .ref (b + 2)), (1, .ref (ad x1))] := hl
  rw [cReader_readRule] at h
  refine lv_aload_n hx hb d_cReader_readRule_0 rfl (lv_at hl 0 rfl) ?_
  refine c_get_2_1 hx hb hts hown hC hX (by rfl) (hts _ t_228) d_cReader_readRule_1 ?_
  obtain ⟨r1, e1, h⟩ := bd_some h
  refine lt_R e1 ?_
  by_cases hkr1 : kd r1 = 7
  rotate_left; · rw [if_neg hkr1] at h; cases h
  rw [if_pos hkr1] at h
  refine c_get_7_8N (k := r1) hx hb hts hown hC hX hkr1 (va_Nw.use rfl (hC.2.1 _ t_206)) d_cReader_readRule_4 ?_
  refine lv_bipush (v := 24) hx hb d_cReader_readRule_7 (by decide) ?_
  refine lv_icmp_lt hx hb d_cReader_readRule_9 (tgt := 18) (by decide) (fun hc => ?_) (fun hc => ?_)
  · rw [if_pos hc] at h
    refine lv_aload_n hx hb d_cReader_readRule_18 rfl (lv_at hl 0 rfl) ?_
    refine c_get_2_1 hx hb hts hown hC hX (by rfl) (hts _ t_228) d_cReader_readRule_19 ?_
    obtain ⟨r19, e19, h⟩ := bd_some h
    refine lt_R e19 ?_
    by_cases hkr19 : kd r19 = 7
    rotate_left; · rw [if_neg hkr19] at h; cases h
    rw [if_pos hkr19] at h
    refine c_get_7_7N (k := r19) hx hb hts hown hC hX hkr19 (va_Nw.use rfl (hC.2.1 _ t_204)) d_cReader_readRule_22 ?_
    refine lv_aload_n hx hb d_cReader_readRule_25 rfl (lv_at hl 0 rfl) ?_
    refine c_get_2_1 hx hb hts hown hC hX (by rfl) (hts _ t_228) d_cReader_readRule_26 ?_
    obtain ⟨r26, e26, h⟩ := bd_some h
    refine lt_R e26 ?_
    by_cases hkr26 : kd r26 = 7
    rotate_left; · rw [if_neg hkr26] at h; cases h
    rw [if_pos hkr26] at h
    refine c_get_7_8N (k := r26) hx hb hts hown hC hX hkr26 (va_Nw.use rfl (hC.2.1 _ t_206)) d_cReader_readRule_29 ?_
    by_cases hg32 : inbd (gI S r26 8) 24 = true
    rotate_left; · rw [if_neg hg32] at h; cases h
    rw [if_pos hg32] at h
    refine c_ald_13 (k := (r19 + 12)) hx hb hC hX (kx_7_12 hkr19) hg32 d_cReader_readRule_32 ?_
    obtain ⟨a32, e32, h⟩ := bd_some h
    refine lt_R e32 ?_
    have hka32 := (ke_13 (k := (r19 + 12)) (kx_7_12 hkr19) (inbd_lt hg32))
    rw [← e32] at hka32
    refine lv_astore_n (lv' := [(2, .ref (b + a32)), (0, .ref (b + 2)), (1, .ref (ad x1))]) hx hb d_cReader_readRule_33 rfl hl (by decide) rfl (fun ls hl => ?_)
    refine lv_aload_n hx hb d_cReader_readRule_34 rfl (lv_at hl 1 rfl) ?_
    refine c_get_2_1 hx hb hts hown hC hX (by rfl) (hts _ t_228) d_cReader_readRule_35 ?_
    obtain ⟨r35, e35, h⟩ := bd_some h
    refine lt_R e35 ?_
    by_cases hkr35 : kd r35 = 7
    rotate_left; · rw [if_neg hkr35] at h; cases h
    rw [if_pos hkr35] at h
    refine lv_dup hx hb d_cReader_readRule_38 rfl ?_
    refine c_get_7_8N (k := r35) hx hb hts hown hC hX hkr35 (va_Nw.use rfl (hC.2.1 _ t_206)) d_cReader_readRule_39 ?_
    refine lv_iconst (v := 1) hx hb d_cReader_readRule_42 (by decide) ?_
    refine lv_iadd hx hb d_cReader_readRule_43 ?_
    refine c_put_7_8N (k := r35) (v := ((gI S r35 8) + 1)) hx hb hts hown hC hX hS hkr35 (va_Nw.use rfl (hC.2.1 _ t_206)) d_cReader_readRule_44 (fun H locs hX hS => ?_)
    obtain ⟨S44, e44, h⟩ := bd_some h
    rw [← e44] at hX
    refine lv_aload_n hx hb d_cReader_readRule_47 rfl (lv_at hl 0 rfl) ?_
    refine lv_aload_n hx hb d_cReader_readRule_48 rfl (lv_at hl 2 rfl) ?_
    refine lv_aload_n hx hb d_cReader_readRule_49 rfl (lv_at hl 1 rfl) ?_
    refine c_get_2_0 hx hb hts hown hC hX (by rfl) (hts _ t_227) d_cReader_readRule_50 ?_
    obtain ⟨q53, hc53, h⟩ := Option.bind_eq_some_iff.mp h
    refine ck_V (As := []) (rest := [.ref (ad x1), .ref (b + a32)]) (st1 := [.int q53, .ref (ad x1), .ref (b + a32)]) (M_cTokens_place  hc53) t_579 t_580 t_581 t_582 t_3 hx hb hts hown hC hX hS (hrc_c3 hC hX (by rfl)) hml hl.1 ⟨by rw [hRf]; decide, by rw [hRl]; decide⟩ ⟨rfl, rfl⟩ (n := 0) (by decide +kernel) rfl rfl rfl (lv_room (Nat.le_of_ble_eq_true rfl)) d_cReader_readRule_53 (fun H locs hX hS => ?_)
    refine lv_aload_n hx hb d_cReader_readRule_56 rfl (lv_at hl 1 rfl) ?_
    refine c_get_2_4 hx hb hts hown hC hX (by rfl) (hts _ t_233) d_cReader_readRule_57 ?_
    refine lv_aload_n hx hb d_cReader_readRule_60 rfl (lv_at hl 1 rfl) ?_
    refine c_get_2_5 hx hb hts hown hC hX (by rfl) (hts _ t_234) d_cReader_readRule_61 ?_
    obtain ⟨q64, hc64, h⟩ := Option.bind_eq_some_iff.mp h
    refine ck_V (As := [.ref (ad x1), .int q53, .int (gI S44 2 4), .int (bI (gB S44 2 5))]) (rest := []) (st1 := []) (M_cRule_begin hka32 hk1 hc64) t_583 t_584 t_585 t_586 t_6 hx hb hts hown hC hX hS (hrc_c14 hC hX hka32) hml hl.1 ⟨by rw [hRf]; decide, by rw [hRl]; decide⟩ ⟨rfl, rfl⟩ (n := 4) (by decide +kernel) rfl rfl rfl (lv_room (Nat.le_of_ble_eq_true rfl)) d_cReader_readRule_64 (fun H locs hX hS => ?_)
    refine lv_aload_n hx hb d_cReader_readRule_67 rfl (lv_at hl 1 rfl) ?_
    refine c_get_2_0 hx hb hts hown hC hX (by rfl) (hts _ t_227) d_cReader_readRule_68 ?_
    obtain ⟨q71, hc71, h⟩ := Option.bind_eq_some_iff.mp h
    refine ck_V (As := []) (rest := []) (st1 := []) (M_cTokens_advance  hc71) t_591 t_592 t_593 t_594 t_3 hx hb hts hown hC hX hS (hrc_c3 hC hX (by rfl)) hml hl.1 ⟨by rw [hRf]; decide, by rw [hRl]; decide⟩ ⟨rfl, rfl⟩ (n := 0) (by decide +kernel) rfl rfl rfl (lv_room (Nat.le_of_ble_eq_true rfl)) d_cReader_readRule_71 (fun H locs hX hS => ?_)
    refine lv_aload_n hx hb d_cReader_readRule_74 rfl (lv_at hl 1 rfl) ?_
    refine lv_aload_n hx hb d_cReader_readRule_75 rfl (lv_at hl 0 rfl) ?_
    refine c_get_14_4N (k := a32) hx hb hts hown hC hX hka32 (va_Nw.use rfl (hC.2.1 _ t_141)) d_cReader_readRule_76 ?_
    obtain ⟨q79, hc79, h⟩ := Option.bind_eq_some_iff.mp h
    refine ck_V (As := [.ref (b + (a32 + 1))]) (rest := []) (st1 := [.int (bI q79.2)]) (M_cReader_readTypes (kx_14_1 hka32) hc79) t_595 t_597 p_9 t_598 t_2 hx hb hts hown hC hX hS (hrc_c2 hC hX (by rfl)) hml hl.1 ⟨by rw [hRf]; decide, by rw [hRl]; decide⟩ ⟨rfl, rfl⟩ (n := 1) (by decide +kernel) rfl rfl rfl (lv_room (Nat.le_of_ble_eq_true rfl)) d_cReader_readRule_79 (fun H locs hX hS => ?_)
    refine lz_ifne hx hb d_cReader_readRule_82 (tgt := 87) (by decide) (fun hc => ?_) (fun hc => ?_)
    · rw [if_pos hc] at h
      refine lv_aload_n hx hb d_cReader_readRule_87 rfl (lv_at hl 0 rfl) ?_
      refine lv_aload_n hx hb d_cReader_readRule_88 rfl (lv_at hl 1 rfl) ?_
      refine c_get_2_0 hx hb hts hown hC hX (by rfl) (hts _ t_227) d_cReader_readRule_89 ?_
      refine st_W (i := 14) hx hb hC hS hown (hts _ t_618) d_cReader_readRule_92 (by decide) ?_
      obtain ⟨q95, hc95, h⟩ := Option.bind_eq_some_iff.mp h
      refine ck_V (As := [.ref (ad 14)]) (rest := [.ref (b + a32)]) (st1 := [.int (bI q95.2), .ref (b + a32)]) (M_cTokens_skipWord (by decide) hc95) t_620 t_621 t_622 t_623 t_3 hx hb hts hown hC hX hS (hrc_c3 hC hX (by rfl)) hml hl.1 ⟨by rw [hRf]; decide, by rw [hRl]; decide⟩ ⟨rfl, rfl⟩ (n := 1) (by decide +kernel) rfl rfl rfl (lv_room (Nat.le_of_ble_eq_true rfl)) d_cReader_readRule_95 (fun H locs hX hS => ?_)
      refine c_put_14_6N (k := a32) (v := q95.2) hx hb hts hown hC hX hS hka32 (va_Nw.use rfl (hC.2.1 _ t_146)) d_cReader_readRule_98 (fun H locs hX hS => ?_)
      obtain ⟨S98, e98, h⟩ := bd_some h
      rw [← e98] at hX
      refine lv_aload_n hx hb d_cReader_readRule_101 rfl (lv_at hl 0 rfl) ?_
      refine c_get_14_6N (k := a32) hx hb hts hown hC hX hka32 (va_Nw.use rfl (hC.2.1 _ t_146)) d_cReader_readRule_102 ?_
      have J119 : ∀ (S_119 : CS) (H : Heap) (locs : List Loc) (ls : Array Slot), hp D cA b ad (S_119, T) H → va_S (Ab b) s.heap H locs → lv_has ls 4 [(0, .ref (b + 2)), (1, .ref (ad x1)), (2, .ref (b + a32))] → cReader_readRule_J119 x1 a32 S_119 = some rr → W p l e R s m args below meth c H locs 0 0 Q (F0 m 119 ls []) := by
        intro S_119 H locs ls  hX hS hl h
        rw [cReader_readRule_J119] at h
        refine lv_aload_n hx hb d_cReader_readRule_119 rfl (lv_at hl 0 rfl) ?_
        refine lv_bipush (v := 58) hx hb d_cReader_readRule_120 (by decide) ?_
        obtain ⟨q122, hc122, h⟩ := Option.bind_eq_some_iff.mp h
        refine ck_V (As := [.int 58]) (rest := []) (st1 := [.int (bI q122.2)]) (M_cReader_expect  hc122) t_624 t_626 p_11 t_627 t_2 hx hb hts hown hC hX hS (hrc_c2 hC hX (by rfl)) hml hl.1 ⟨by rw [hRf]; decide, by rw [hRl]; decide⟩ ⟨rfl, rfl⟩ (n := 1) (by decide +kernel) rfl rfl rfl (lv_room (Nat.le_of_ble_eq_true rfl)) d_cReader_readRule_122 (fun H locs hX hS => ?_)
        refine lz_ifne hx hb d_cReader_readRule_125 (tgt := 130) (by decide) (fun hc => ?_) (fun hc => ?_)
        · rw [if_pos hc] at h
          refine lv_aload_n hx hb d_cReader_readRule_130 rfl (lv_at hl 1 rfl) ?_
          refine st_W (i := 9) hx hb hC hS hown (hts _ t_628) d_cReader_readRule_131 (by decide) ?_
          have J166 : ∀ (s0_166 : Bool) (S_166 : CS) (H : Heap) (locs : List Loc) (ls : Array Slot), hp D cA b ad (S_166, T) H → va_S (Ab b) s.heap H locs → lv_has ls 4 [(0, .ref (b + 2))] → cReader_readRule_J166 s0_166 S_166 = some rr → W p l e R s m args below meth c H locs 0 0 Q (F0 m 166 ls [.int (bI s0_166)]) := by
            intro s0_166 S_166 H locs ls  hX hS hl h
            rw [cReader_readRule_J166] at h
            refine lv_istore_n (lv' := [(3, .int (bI s0_166)), (0, .ref (b + 2))]) hx hb d_cReader_readRule_166 rfl hl (by decide) rfl (fun ls hl => ?_)
            refine lv_iload_n hx hb d_cReader_readRule_167 rfl (lv_at hl 0 rfl) ?_
            refine lz_ifeq hx hb d_cReader_readRule_168 (tgt := 184) (by decide) (fun hc => ?_) (fun hc => ?_)
            · rw [if_neg hc] at h
              refine lv_iconst (v := 0) hx hb d_cReader_readRule_184 (by decide) ?_
              obtain rfl := Option.some.inj h
              exact rt_zf hQ hx hb hr hX hS hlk d_cReader_readRule_185
            · rw [if_pos hc] at h
              refine lv_aload_n hx hb d_cReader_readRule_171 rfl (lv_at hl 1 rfl) ?_
              refine lv_bipush (v := 59) hx hb d_cReader_readRule_172 (by decide) ?_
              obtain ⟨q174, hc174, h⟩ := Option.bind_eq_some_iff.mp h
              refine ck_V (As := [.int 59]) (rest := []) (st1 := [.int (bI q174.2)]) (M_cReader_expect  hc174) t_624 t_626 p_11 t_627 t_2 hx hb hts hown hC hX hS (hrc_c2 hC hX (by rfl)) hml hl.1 ⟨by rw [hRf]; decide, by rw [hRl]; decide⟩ ⟨rfl, rfl⟩ (n := 1) (by decide +kernel) rfl rfl rfl (lv_room (Nat.le_of_ble_eq_true rfl)) d_cReader_readRule_174 (fun H locs hX hS => ?_)
              refine lz_ifeq hx hb d_cReader_readRule_177 (tgt := 184) (by decide) (fun hc => ?_) (fun hc => ?_)
              · rw [if_neg hc] at h
                refine lv_iconst (v := 0) hx hb d_cReader_readRule_184 (by decide) ?_
                obtain rfl := Option.some.inj h
                exact rt_zf hQ hx hb hr hX hS hlk d_cReader_readRule_185
              · rw [if_pos hc] at h
                refine lv_iconst (v := 1) hx hb d_cReader_readRule_180 (by decide) ?_
                refine lv_goto hx hb d_cReader_readRule_181 (tgt := 185) (by decide) ?_
                obtain rfl := Option.some.inj h
                exact rt_zt hQ hx hb hr hX hS hlk d_cReader_readRule_185
          refine lw_acmpne hx hb (hC.2.2.1) hk1 (by decide) d_cReader_readRule_134 (tgt := 145) (by decide) (fun hc => ?_) (fun hc => ?_)
          · rw [if_neg hc] at h
            refine lv_aload_n hx hb d_cReader_readRule_145 rfl (lv_at hl 0 rfl) ?_
            refine lv_aload_n hx hb d_cReader_readRule_146 rfl (lv_at hl 2 rfl) ?_
            obtain ⟨q147, hc147, h⟩ := Option.bind_eq_some_iff.mp h
            refine ck_V (As := [.ref (b + a32)]) (rest := []) (st1 := [.int (bI q147.2)]) (M_cReader_readClasses hka32 hc147) t_638 t_640 p_14 t_641 t_2 hx hb hts hown hC hX hS (hrc_c2 hC hX (by rfl)) hml hl.1 ⟨by rw [hRf]; decide, by rw [hRl]; decide⟩ ⟨rfl, rfl⟩ (n := 1) (by decide +kernel) rfl rfl rfl (lv_room (Nat.le_of_ble_eq_true rfl)) d_cReader_readRule_147 (fun H locs hX hS => ?_)
            have J165 : ∀ (S_165 : CS) (H : Heap) (locs : List Loc) (ls : Array Slot), hp D cA b ad (S_165, T) H → va_S (Ab b) s.heap H locs → lv_has ls 4 [(0, .ref (b + 2))] → cReader_readRule_J165 S_165 = some rr → W p l e R s m args below meth c H locs 0 0 Q (F0 m 165 ls []) := by
              intro S_165 H locs ls  hX hS hl h
              rw [cReader_readRule_J165] at h
              refine lv_iconst (v := 0) hx hb d_cReader_readRule_165 (by decide) ?_
              exact J166 false S_165 H locs ls  hX hS (lv_sub hl [0] rfl) h
            refine lz_ifeq hx hb d_cReader_readRule_150 (tgt := 165) (by decide) (fun hc => ?_) (fun hc => ?_)
            · rw [if_neg hc] at h
              exact J165 q147.1 H locs ls  hX hS (lv_sub hl [0] rfl) h
            · rw [if_pos hc] at h
              refine lv_aload_n hx hb d_cReader_readRule_153 rfl (lv_at hl 0 rfl) ?_
              refine lv_aload_n hx hb d_cReader_readRule_154 rfl (lv_at hl 2 rfl) ?_
              obtain ⟨q155, hc155, h⟩ := Option.bind_eq_some_iff.mp h
              refine ck_V (As := [.ref (b + a32)]) (rest := []) (st1 := [.int (bI q155.2)]) (M_cReader_readPermissions hka32 hc155) t_642 t_644 p_15 t_645 t_2 hx hb hts hown hC hX hS (hrc_c2 hC hX (by rfl)) hml hl.1 ⟨by rw [hRf]; decide, by rw [hRl]; decide⟩ ⟨rfl, rfl⟩ (n := 1) (by decide +kernel) rfl rfl rfl (lv_room (Nat.le_of_ble_eq_true rfl)) d_cReader_readRule_155 (fun H locs hX hS => ?_)
              refine lz_ifeq hx hb d_cReader_readRule_158 (tgt := 165) (by decide) (fun hc => ?_) (fun hc => ?_)
              · rw [if_neg hc] at h
                exact J165 q155.1 H locs ls  hX hS (lv_sub hl [0] rfl) h
              · rw [if_pos hc] at h
                refine lv_iconst (v := 1) hx hb d_cReader_readRule_161 (by decide) ?_
                refine lv_goto hx hb d_cReader_readRule_162 (tgt := 166) (by decide) ?_
                exact J166 true q155.1 H locs ls  hX hS (lv_sub hl [0] rfl) h
          · rw [if_pos hc] at h
            refine lv_aload_n hx hb d_cReader_readRule_137 rfl (lv_at hl 0 rfl) ?_
            refine lv_aload_n hx hb d_cReader_readRule_138 rfl (lv_at hl 2 rfl) ?_
            obtain ⟨q139, hc139, h⟩ := Option.bind_eq_some_iff.mp h
            refine ck_V (As := [.ref (b + a32)]) (rest := []) (st1 := [.int (bI q139.2)]) (M_cReader_readMove hka32 hc139) t_630 t_632 p_12 t_633 t_2 hx hb hts hown hC hX hS (hrc_c2 hC hX (by rfl)) hml hl.1 ⟨by rw [hRf]; decide, by rw [hRl]; decide⟩ ⟨rfl, rfl⟩ (n := 1) (by decide +kernel) rfl rfl rfl (lv_room (Nat.le_of_ble_eq_true rfl)) d_cReader_readRule_139 (fun H locs hX hS => ?_)
            refine lv_goto hx hb d_cReader_readRule_142 (tgt := 166) (by decide) ?_
            exact J166 q139.2 q139.1 H locs ls  hX hS (lv_sub hl [0] rfl) h
        · rw [if_neg hc] at h
          refine lv_iconst (v := 0) hx hb d_cReader_readRule_128 (by decide) ?_
          obtain rfl := Option.some.inj h
          exact rt_zf hQ hx hb hr hX hS hlk d_cReader_readRule_129
      refine lz_ifne hx hb d_cReader_readRule_105 (tgt := 119) (by decide) (fun hc => ?_) (fun hc => ?_)
      · rw [if_pos hc] at h
        exact J119 S98 H locs ls  hX hS (lv_sub hl [1, 2, 0] rfl) h
      · rw [if_neg hc] at h
        refine lv_aload_n hx hb d_cReader_readRule_108 rfl (lv_at hl 1 rfl) ?_
        refine lv_aload_n hx hb d_cReader_readRule_109 rfl (lv_at hl 0 rfl) ?_
        refine c_get_14_5N (k := a32) hx hb hts hown hC hX hka32 (va_Nw.use rfl (hC.2.1 _ t_144)) d_cReader_readRule_110 ?_
        obtain ⟨q113, hc113, h⟩ := Option.bind_eq_some_iff.mp h
        refine ck_V (As := [.ref (b + (a32 + 2))]) (rest := []) (st1 := [.int (bI q113.2)]) (M_cReader_readTypes (kx_14_2 hka32) hc113) t_595 t_597 p_9 t_598 t_2 hx hb hts hown hC hX hS (hrc_c2 hC hX (by rfl)) hml hl.1 ⟨by rw [hRf]; decide, by rw [hRl]; decide⟩ ⟨rfl, rfl⟩ (n := 1) (by decide +kernel) rfl rfl rfl (lv_room (Nat.le_of_ble_eq_true rfl)) d_cReader_readRule_113 (fun H locs hX hS => ?_)
        refine lz_ifeq hx hb d_cReader_readRule_116 (tgt := 128) (by decide) (fun hc => ?_) (fun hc => ?_)
        · rw [if_neg hc] at h
          refine lv_iconst (v := 0) hx hb d_cReader_readRule_128 (by decide) ?_
          obtain rfl := Option.some.inj h
          exact rt_zf hQ hx hb hr hX hS hlk d_cReader_readRule_129
        · rw [if_pos hc] at h
          exact J119 q113.1 H locs ls  hX hS (lv_sub hl [1, 2, 0] rfl) h
    · rw [if_neg hc] at h
      refine lv_iconst (v := 0) hx hb d_cReader_readRule_85 (by decide) ?_
      obtain rfl := Option.some.inj h
      exact rt_zf hQ hx hb hr hX hS hlk d_cReader_readRule_86
  · rw [if_neg hc] at h
    refine lv_aload_n hx hb d_cReader_readRule_12 rfl (lv_at hl 0 rfl) ?_
    refine lv_iconst (v := 4) hx hb d_cReader_readRule_13 (by decide) ?_
    obtain ⟨q14, hc14, h⟩ := Option.bind_eq_some_iff.mp h
    refine ck_V (As := [.int 4]) (rest := []) (st1 := [.int (bI q14.2)]) (M_cReader_refuse  hc14) t_575 t_577 p_8 t_578 t_2 hx hb hts hown hC hX hS (hrc_c2 hC hX (by rfl)) hml hl.1 ⟨by rw [hRf]; decide, by rw [hRl]; decide⟩ ⟨rfl, rfl⟩ (n := 1) (by decide +kernel) rfl rfl rfl (lv_room (Nat.le_of_ble_eq_true rfl)) d_cReader_readRule_14 (fun H locs hX hS => ?_)
    obtain rfl := Option.some.inj h
    exact rt_z hQ hx hb hr hX hS hlk d_cReader_readRule_17
abbrev y_cReader_readEndOfBlock : MethodName := ({ cls := "TypeGuard$Reader", name := "readEndOfBlock", desc := "()Z" } : Jvm.MethodName)
theorem d_cReader_readEndOfBlock_0 : decode prog_7_method_13_code 0 = .ok (.aload_n 0, 1) := by decide +kernel
theorem d_cReader_readEndOfBlock_1 : decode prog_7_method_13_code 1 = .ok (.bipush 125, 2) := by decide +kernel
theorem d_cReader_readEndOfBlock_3 : decode prog_7_method_13_code 3 = .ok (.invokevirtual 148, 3) := by decide +kernel
theorem d_cReader_readEndOfBlock_6 : decode prog_7_method_13_code 6 = .ok (.ifCond .ne 5, 3) := by decide +kernel
theorem d_cReader_readEndOfBlock_9 : decode prog_7_method_13_code 9 = .ok (.iconst 0, 1) := by decide +kernel
theorem d_cReader_readEndOfBlock_10 : decode prog_7_method_13_code 10 = .ok (.ireturn, 1) := by decide +kernel
theorem d_cReader_readEndOfBlock_11 : decode prog_7_method_13_code 11 = .ok (.aload_n 0, 1) := by decide +kernel
theorem d_cReader_readEndOfBlock_12 : decode prog_7_method_13_code 12 = .ok (.getfield 196, 3) := by decide +kernel
theorem d_cReader_readEndOfBlock_15 : decode prog_7_method_13_code 15 = .ok (.ifCond .ne 28, 3) := by decide +kernel
theorem d_cReader_readEndOfBlock_18 : decode prog_7_method_13_code 18 = .ok (.aload_n 0, 1) := by decide +kernel
theorem d_cReader_readEndOfBlock_19 : decode prog_7_method_13_code 19 = .ok (.getfield 12, 3) := by decide +kernel
theorem d_cReader_readEndOfBlock_22 : decode prog_7_method_13_code 22 = .ok (.getstatic 200, 3) := by decide +kernel
theorem d_cReader_readEndOfBlock_25 : decode prog_7_method_13_code 25 = .ok (.invokevirtual 186, 3) := by decide +kernel
theorem d_cReader_readEndOfBlock_28 : decode prog_7_method_13_code 28 = .ok (.ifCond .eq 15, 3) := by decide +kernel
theorem d_cReader_readEndOfBlock_31 : decode prog_7_method_13_code 31 = .ok (.aload_n 0, 1) := by decide +kernel
theorem d_cReader_readEndOfBlock_32 : decode prog_7_method_13_code 32 = .ok (.iconst 1, 1) := by decide +kernel
theorem d_cReader_readEndOfBlock_33 : decode prog_7_method_13_code 33 = .ok (.putfield 196, 3) := by decide +kernel
theorem d_cReader_readEndOfBlock_36 : decode prog_7_method_13_code 36 = .ok (.aload_n 0, 1) := by decide +kernel
theorem d_cReader_readEndOfBlock_37 : decode prog_7_method_13_code 37 = .ok (.bipush 123, 2) := by decide +kernel
theorem d_cReader_readEndOfBlock_39 : decode prog_7_method_13_code 39 = .ok (.invokevirtual 148, 3) := by decide +kernel
theorem d_cReader_readEndOfBlock_42 : decode prog_7_method_13_code 42 = .ok (.ireturn, 1) := by decide +kernel
theorem d_cReader_readEndOfBlock_43 : decode prog_7_method_13_code 43 = .ok (.aload_n 0, 1) := by decide +kernel
theorem d_cReader_readEndOfBlock_44 : decode prog_7_method_13_code 44 = .ok (.iconst (-1), 1) := by decide +kernel
theorem d_cReader_readEndOfBlock_45 : decode prog_7_method_13_code 45 = .ok (.putfield 32, 3) := by decide +kernel
theorem d_cReader_readEndOfBlock_48 : decode prog_7_method_13_code 48 = .ok (.aload_n 0, 1) := by decide +kernel
theorem d_cReader_readEndOfBlock_49 : decode prog_7_method_13_code 49 = .ok (.bipush 59, 2) := by decide +kernel
theorem d_cReader_readEndOfBlock_51 : decode prog_7_method_13_code 51 = .ok (.invokevirtual 148, 3) := by decide +kernel
theorem d_cReader_readEndOfBlock_54 : decode prog_7_method_13_code 54 = .ok (.ireturn, 1) := by decide +kernel
def cReader_readEndOfBlock_J43 (S_43 : CS) : Option (CS × Bool) := (bd (pI S_43 2 4 (-1)) fun S45 => ((cReader_expect 59 S45).bind fun q51 => some (q51.1, q51.2)))
def cReader_readEndOfBlock (S : CS) : Option (CS × Bool) := ((cReader_expect 125 S).bind fun q3 => (if q3.2 = true then (if (gB q3.1 2 5) = true then cReader_readEndOfBlock_J43 q3.1 else ((cTokens_skipWord 11 q3.1).bind fun q25 => (if q25.2 = true then (bd (pB q25.1 2 5 true) fun S33 => ((cReader_expect 123 S33).bind fun q39 => some (q39.1, q39.2))) else cReader_readEndOfBlock_J43 q25.1))) else some (q3.1, false)))
set_option maxHeartbeats 4000000 in
set_option maxRecDepth 100000 in
theorem M_cReader_readEndOfBlock {l : Launch} {D : va_G} {cA : Nat → ClassId} {b : Nat} {ad : Nat → Nat}  {S : CS} {T : MS × (Nat → Int64)} {rr : (CS × Bool)}  (h : cReader_readEndOfBlock  S = some rr) : Met l y_cReader_readEndOfBlock (Cond.code y_cReader_readEndOfBlock prog_7_method_13_code 1 (Option.some Jvm.ClassFile.FieldType.boolean) :: TW) { frames := 3, cells := 0, slots := 0, locals := 64 } (va_Pc [.ref (b + 2)] (Rp D cA b ad (S, T))) (Qr D cA b ad (rr.1, T) (some (.int (bI rr.2)))) 0 0 (Ab b) := by
  refine Ct_of (by decide) (Nat.le_of_ble_eq_true rfl) ?_
  intro p e R s m args below meth c ls Q H locs hR hQ hx hb hts hown hml hr hlk hC hX hS hl
  have hRf : R.frames = 3 := by rw [hR]
  have hRl : R.locals = 64 := by rw [hR]
  have hown : s.vm.findClass "TypeGuard$Reader" = some m.cls := hown
  have hl : lv_has ls 1 [(0, .ref (b + 2))] := hl
  rw [cReader_readEndOfBlock] at h
  refine lv_aload_n hx hb d_cReader_readEndOfBlock_0 rfl (lv_at hl 0 rfl) ?_
  refine lv_bipush (v := 125) hx hb d_cReader_readEndOfBlock_1 (by decide) ?_
  obtain ⟨q3, hc3, h⟩ := Option.bind_eq_some_iff.mp h
  refine ck_V (As := [.int 125]) (rest := []) (st1 := [.int (bI q3.2)]) (M_cReader_expect  hc3) t_624 t_626 p_11 t_627 t_2 hx hb hts hown hC hX hS (hrc_c2 hC hX (by rfl)) hml hl.1 ⟨by rw [hRf]; decide, by rw [hRl]; decide⟩ ⟨rfl, rfl⟩ (n := 1) (by decide +kernel) rfl rfl rfl (lv_room (Nat.le_of_ble_eq_true rfl)) d_cReader_readEndOfBlock_3 (fun H locs hX hS => ?_)
  refine lz_ifne hx hb d_cReader_readEndOfBlock_6 (tgt := 11) (by decide) (fun hc => ?_) (fun hc => ?_)
  · rw [if_pos hc] at h
    refine lv_aload_n hx hb d_cReader_readEndOfBlock_11 rfl (lv_at hl 0 rfl) ?_
    refine c_get_2_5 hx hb hts hown hC hX (by rfl) (hts _ t_234) d_cReader_readEndOfBlock_12 ?_
    have J43 : ∀ (S_43 : CS) (H : Heap) (locs : List Loc) (ls : Array Slot), hp D cA b ad (S_43, T) H → va_S (Ab b) s.heap H locs → lv_has ls 1 [(0, .ref (b + 2))] → cReader_readEndOfBlock_J43 S_43 = some rr → W p l e R s m args below meth c H locs 0 0 Q (F0 m 43 ls []) := by
      intro S_43 H locs ls  hX hS hl h
      rw [cReader_readEndOfBlock_J43] at h
      refine lv_aload_n hx hb d_cReader_readEndOfBlock_43 rfl (lv_at hl 0 rfl) ?_
      refine lv_iconst (v := (-1)) hx hb d_cReader_readEndOfBlock_44 (by decide) ?_
      refine c_put_2_4 (v := (-1)) hx hb hts hown hC hX hS (by rfl) (hts _ t_233) d_cReader_readEndOfBlock_45 (fun H locs hX hS => ?_)
      obtain ⟨S45, e45, h⟩ := bd_some h
      rw [← e45] at hX
      refine lv_aload_n hx hb d_cReader_readEndOfBlock_48 rfl (lv_at hl 0 rfl) ?_
      refine lv_bipush (v := 59) hx hb d_cReader_readEndOfBlock_49 (by decide) ?_
      obtain ⟨q51, hc51, h⟩ := Option.bind_eq_some_iff.mp h
      refine ck_V (As := [.int 59]) (rest := []) (st1 := [.int (bI q51.2)]) (M_cReader_expect  hc51) t_624 t_626 p_11 t_627 t_2 hx hb hts hown hC hX hS (hrc_c2 hC hX (by rfl)) hml hl.1 ⟨by rw [hRf]; decide, by rw [hRl]; decide⟩ ⟨rfl, rfl⟩ (n := 1) (by decide +kernel) rfl rfl rfl (lv_room (Nat.le_of_ble_eq_true rfl)) d_cReader_readEndOfBlock_51 (fun H locs hX hS => ?_)
      obtain rfl := Option.some.inj h
      exact rt_z hQ hx hb hr hX hS hlk d_cReader_readEndOfBlock_54
    refine lz_ifne hx hb d_cReader_readEndOfBlock_15 (tgt := 43) (by decide) (fun hc => ?_) (fun hc => ?_)
    · rw [if_pos hc] at h
      exact J43 q3.1 H locs ls  hX hS (lv_sub hl [0] rfl) h
    · rw [if_neg hc] at h
      refine lv_aload_n hx hb d_cReader_readEndOfBlock_18 rfl (lv_at hl 0 rfl) ?_
      refine c_get_2_0 hx hb hts hown hC hX (by rfl) (hts _ t_227) d_cReader_readEndOfBlock_19 ?_
      refine st_W (i := 11) hx hb hC hS hown (hts _ t_665) d_cReader_readEndOfBlock_22 (by decide) ?_
      obtain ⟨q25, hc25, h⟩ := Option.bind_eq_some_iff.mp h
      refine ck_V (As := [.ref (ad 11)]) (rest := []) (st1 := [.int (bI q25.2)]) (M_cTokens_skipWord (by decide) hc25) t_620 t_621 t_622 t_623 t_3 hx hb hts hown hC hX hS (hrc_c3 hC hX (by rfl)) hml hl.1 ⟨by rw [hRf]; decide, by rw [hRl]; decide⟩ ⟨rfl, rfl⟩ (n := 1) (by decide +kernel) rfl rfl rfl (lv_room (Nat.le_of_ble_eq_true rfl)) d_cReader_readEndOfBlock_25 (fun H locs hX hS => ?_)
      refine lz_ifeq hx hb d_cReader_readEndOfBlock_28 (tgt := 43) (by decide) (fun hc => ?_) (fun hc => ?_)
      · rw [if_neg hc] at h
        exact J43 q25.1 H locs ls  hX hS (lv_sub hl [0] rfl) h
      · rw [if_pos hc] at h
        refine lv_aload_n hx hb d_cReader_readEndOfBlock_31 rfl (lv_at hl 0 rfl) ?_
        refine lv_iconst (v := 1) hx hb d_cReader_readEndOfBlock_32 (by decide) ?_
        refine c_put_2_5 (v := true) hx hb hts hown hC hX hS (by rfl) (hts _ t_234) d_cReader_readEndOfBlock_33 (fun H locs hX hS => ?_)
        obtain ⟨S33, e33, h⟩ := bd_some h
        rw [← e33] at hX
        refine lv_aload_n hx hb d_cReader_readEndOfBlock_36 rfl (lv_at hl 0 rfl) ?_
        refine lv_bipush (v := 123) hx hb d_cReader_readEndOfBlock_37 (by decide) ?_
        obtain ⟨q39, hc39, h⟩ := Option.bind_eq_some_iff.mp h
        refine ck_V (As := [.int 123]) (rest := []) (st1 := [.int (bI q39.2)]) (M_cReader_expect  hc39) t_624 t_626 p_11 t_627 t_2 hx hb hts hown hC hX hS (hrc_c2 hC hX (by rfl)) hml hl.1 ⟨by rw [hRf]; decide, by rw [hRl]; decide⟩ ⟨rfl, rfl⟩ (n := 1) (by decide +kernel) rfl rfl rfl (lv_room (Nat.le_of_ble_eq_true rfl)) d_cReader_readEndOfBlock_39 (fun H locs hX hS => ?_)
        obtain rfl := Option.some.inj h
        exact rt_z hQ hx hb hr hX hS hlk d_cReader_readEndOfBlock_42
  · rw [if_neg hc] at h
    refine lv_iconst (v := 0) hx hb d_cReader_readEndOfBlock_9 (by decide) ?_
    obtain rfl := Option.some.inj h
    exact rt_zf hQ hx hb hr hX hS hlk d_cReader_readEndOfBlock_10
abbrev y_cPolicy_declares : MethodName := ({ cls := "TypeGuard$Policy", name := "declares", desc := "(J)Z" } : Jvm.MethodName)
theorem d_cPolicy_declares_0 : decode prog_6_method_3_code 0 = .ok (.aload_n 0, 1) := by decide +kernel
theorem d_cPolicy_declares_1 : decode prog_6_method_3_code 1 = .ok (.getfield 14, 3) := by decide +kernel
theorem d_cPolicy_declares_4 : decode prog_6_method_3_code 4 = .ok (.lload_n 1, 1) := by decide +kernel
theorem d_cPolicy_declares_5 : decode prog_6_method_3_code 5 = .ok (.invokevirtual 55, 3) := by decide +kernel
theorem d_cPolicy_declares_8 : decode prog_6_method_3_code 8 = .ok (.iconst (-1), 1) := by decide +kernel
theorem d_cPolicy_declares_9 : decode prog_6_method_3_code 9 = .ok (.if_icmp .ne 39, 3) := by decide +kernel
theorem d_cPolicy_declares_12 : decode prog_6_method_3_code 12 = .ok (.aload_n 0, 1) := by decide +kernel
theorem d_cPolicy_declares_13 : decode prog_6_method_3_code 13 = .ok (.getfield 20, 3) := by decide +kernel
theorem d_cPolicy_declares_16 : decode prog_6_method_3_code 16 = .ok (.lload_n 1, 1) := by decide +kernel
theorem d_cPolicy_declares_17 : decode prog_6_method_3_code 17 = .ok (.invokevirtual 55, 3) := by decide +kernel
theorem d_cPolicy_declares_20 : decode prog_6_method_3_code 20 = .ok (.iconst (-1), 1) := by decide +kernel
theorem d_cPolicy_declares_21 : decode prog_6_method_3_code 21 = .ok (.if_icmp .ne 27, 3) := by decide +kernel
theorem d_cPolicy_declares_24 : decode prog_6_method_3_code 24 = .ok (.aload_n 0, 1) := by decide +kernel
theorem d_cPolicy_declares_25 : decode prog_6_method_3_code 25 = .ok (.getfield 23, 3) := by decide +kernel
theorem d_cPolicy_declares_28 : decode prog_6_method_3_code 28 = .ok (.lload_n 1, 1) := by decide +kernel
theorem d_cPolicy_declares_29 : decode prog_6_method_3_code 29 = .ok (.invokevirtual 55, 3) := by decide +kernel
theorem d_cPolicy_declares_32 : decode prog_6_method_3_code 32 = .ok (.iconst (-1), 1) := by decide +kernel
theorem d_cPolicy_declares_33 : decode prog_6_method_3_code 33 = .ok (.if_icmp .ne 15, 3) := by decide +kernel
theorem d_cPolicy_declares_36 : decode prog_6_method_3_code 36 = .ok (.aload_n 0, 1) := by decide +kernel
theorem d_cPolicy_declares_37 : decode prog_6_method_3_code 37 = .ok (.getfield 26, 3) := by decide +kernel
theorem d_cPolicy_declares_40 : decode prog_6_method_3_code 40 = .ok (.lload_n 1, 1) := by decide +kernel
theorem d_cPolicy_declares_41 : decode prog_6_method_3_code 41 = .ok (.invokevirtual 55, 3) := by decide +kernel
theorem d_cPolicy_declares_44 : decode prog_6_method_3_code 44 = .ok (.iconst (-1), 1) := by decide +kernel
theorem d_cPolicy_declares_45 : decode prog_6_method_3_code 45 = .ok (.if_icmp .eq 7, 3) := by decide +kernel
theorem d_cPolicy_declares_48 : decode prog_6_method_3_code 48 = .ok (.iconst 1, 1) := by decide +kernel
theorem d_cPolicy_declares_49 : decode prog_6_method_3_code 49 = .ok (.goto 4, 3) := by decide +kernel
theorem d_cPolicy_declares_52 : decode prog_6_method_3_code 52 = .ok (.iconst 0, 1) := by decide +kernel
theorem d_cPolicy_declares_53 : decode prog_6_method_3_code 53 = .ok (.ireturn, 1) := by decide +kernel
def cPolicy_declares (k0 : Nat) (x1 : Int64) (S : CS) : Option Bool := ((cNames_numberOf (k0 + 1) x1 S).bind fun q5 => (if q5 = (-1) then ((cNames_numberOf (k0 + 3) x1 S).bind fun q17 => (if q17 = (-1) then ((cNames_numberOf (k0 + 5) x1 S).bind fun q29 => (if q29 = (-1) then ((cNames_numberOf (k0 + 7) x1 S).bind fun q41 => (if q41 = (-1) then some false else some true)) else some true)) else some true)) else some true))
set_option maxHeartbeats 4000000 in
set_option maxRecDepth 100000 in
theorem M_cPolicy_declares {l : Launch} {D : va_G} {cA : Nat → ClassId} {b : Nat} {ad : Nat → Nat} {k0 : Nat} {x1 : Int64} {S : CS} {T : MS × (Nat → Int64)} {rr : Bool} (hk0 : kd k0 = 7) (h : cPolicy_declares k0 x1 S = some rr) : Met l y_cPolicy_declares (Cond.code y_cPolicy_declares prog_6_method_3_code 3 (Option.some Jvm.ClassFile.FieldType.boolean) :: TW) { frames := 1, cells := 0, slots := 0, locals := 23 } (va_Pc [.ref (b + k0), .long x1] (Rp D cA b ad (S, T))) (Qr D cA b ad (S, T) (some (.int (bI rr)))) 0 0 (Ab b) := by
  refine Ct_of (by decide) (Nat.le_of_ble_eq_true rfl) ?_
  intro p e R s m args below meth c ls Q H locs hR hQ hx hb hts hown hml hr hlk hC hX hS hl
  have hRf : R.frames = 1 := by rw [hR]
  have hRl : R.locals = 23 := by rw [hR]
  have hown : s.vm.findClass "TypeGuard$Policy" = some m.cls := hown
  have hl : lv_has ls 3 [(0, .ref (b + k0)), (1, .long x1)] := hl
  rw [cPolicy_declares] at h
  refine lv_aload_n hx hb d_cPolicy_declares_0 rfl (lv_at hl 0 rfl) ?_
  refine c_get_7_0 (k := k0) hx hb hts hown hC hX hk0 (hts _ t_185) d_cPolicy_declares_1 ?_
  refine lv_lload_n hx hb d_cPolicy_declares_4 rfl (lv_at hl 1 rfl) ?_
  obtain ⟨q5, hc5, h⟩ := Option.bind_eq_some_iff.mp h
  refine ck_V (As := [.long x1]) (rest := []) (st1 := [.int q5]) (M_cNames_numberOf (kx_7_1 hk0) hc5) t_683 t_386 t_387 t_388 t_5 hx hb hts hown hC hX hS (hrc_c8 hC hX (kx_7_1 hk0)) hml hl.1 ⟨by rw [hRf]; decide, by rw [hRl]; decide⟩ ⟨rfl, rfl⟩ (n := 1) (by decide +kernel) rfl rfl rfl (lv_room (Nat.le_of_ble_eq_true rfl)) d_cPolicy_declares_5 (fun H locs hX hS => ?_)
  refine lv_iconst (v := (-1)) hx hb d_cPolicy_declares_8 (by decide) ?_
  refine lv_icmp_ne hx hb d_cPolicy_declares_9 (tgt := 48) (by decide) (fun hc => ?_) (fun hc => ?_)
  · rw [if_neg hc] at h
    refine lv_iconst (v := 1) hx hb d_cPolicy_declares_48 (by decide) ?_
    refine lv_goto hx hb d_cPolicy_declares_49 (tgt := 53) (by decide) ?_
    obtain rfl := Option.some.inj h
    exact rt_zt hQ hx hb hr hX hS hlk d_cPolicy_declares_53
  · rw [if_pos hc] at h
    refine lv_aload_n hx hb d_cPolicy_declares_12 rfl (lv_at hl 0 rfl) ?_
    refine c_get_7_1 (k := k0) hx hb hts hown hC hX hk0 (hts _ t_188) d_cPolicy_declares_13 ?_
    refine lv_lload_n hx hb d_cPolicy_declares_16 rfl (lv_at hl 1 rfl) ?_
    obtain ⟨q17, hc17, h⟩ := Option.bind_eq_some_iff.mp h
    refine ck_V (As := [.long x1]) (rest := []) (st1 := [.int q17]) (M_cNames_numberOf (kx_7_3 hk0) hc17) t_683 t_386 t_387 t_388 t_5 hx hb hts hown hC hX hS (hrc_c8 hC hX (kx_7_3 hk0)) hml hl.1 ⟨by rw [hRf]; decide, by rw [hRl]; decide⟩ ⟨rfl, rfl⟩ (n := 1) (by decide +kernel) rfl rfl rfl (lv_room (Nat.le_of_ble_eq_true rfl)) d_cPolicy_declares_17 (fun H locs hX hS => ?_)
    refine lv_iconst (v := (-1)) hx hb d_cPolicy_declares_20 (by decide) ?_
    refine lv_icmp_ne hx hb d_cPolicy_declares_21 (tgt := 48) (by decide) (fun hc => ?_) (fun hc => ?_)
    · rw [if_neg hc] at h
      refine lv_iconst (v := 1) hx hb d_cPolicy_declares_48 (by decide) ?_
      refine lv_goto hx hb d_cPolicy_declares_49 (tgt := 53) (by decide) ?_
      obtain rfl := Option.some.inj h
      exact rt_zt hQ hx hb hr hX hS hlk d_cPolicy_declares_53
    · rw [if_pos hc] at h
      refine lv_aload_n hx hb d_cPolicy_declares_24 rfl (lv_at hl 0 rfl) ?_
      refine c_get_7_2 (k := k0) hx hb hts hown hC hX hk0 (hts _ t_190) d_cPolicy_declares_25 ?_
      refine lv_lload_n hx hb d_cPolicy_declares_28 rfl (lv_at hl 1 rfl) ?_
      obtain ⟨q29, hc29, h⟩ := Option.bind_eq_some_iff.mp h
      refine ck_V (As := [.long x1]) (rest := []) (st1 := [.int q29]) (M_cNames_numberOf (kx_7_5 hk0) hc29) t_683 t_386 t_387 t_388 t_5 hx hb hts hown hC hX hS (hrc_c8 hC hX (kx_7_5 hk0)) hml hl.1 ⟨by rw [hRf]; decide, by rw [hRl]; decide⟩ ⟨rfl, rfl⟩ (n := 1) (by decide +kernel) rfl rfl rfl (lv_room (Nat.le_of_ble_eq_true rfl)) d_cPolicy_declares_29 (fun H locs hX hS => ?_)
      refine lv_iconst (v := (-1)) hx hb d_cPolicy_declares_32 (by decide) ?_
      refine lv_icmp_ne hx hb d_cPolicy_declares_33 (tgt := 48) (by decide) (fun hc => ?_) (fun hc => ?_)
      · rw [if_neg hc] at h
        refine lv_iconst (v := 1) hx hb d_cPolicy_declares_48 (by decide) ?_
        refine lv_goto hx hb d_cPolicy_declares_49 (tgt := 53) (by decide) ?_
        obtain rfl := Option.some.inj h
        exact rt_zt hQ hx hb hr hX hS hlk d_cPolicy_declares_53
      · rw [if_pos hc] at h
        refine lv_aload_n hx hb d_cPolicy_declares_36 rfl (lv_at hl 0 rfl) ?_
        refine c_get_7_3 (k := k0) hx hb hts hown hC hX hk0 (hts _ t_193) d_cPolicy_declares_37 ?_
        refine lv_lload_n hx hb d_cPolicy_declares_40 rfl (lv_at hl 1 rfl) ?_
        obtain ⟨q41, hc41, h⟩ := Option.bind_eq_some_iff.mp h
        refine ck_V (As := [.long x1]) (rest := []) (st1 := [.int q41]) (M_cNames_numberOf (kx_7_7 hk0) hc41) t_683 t_386 t_387 t_388 t_5 hx hb hts hown hC hX hS (hrc_c8 hC hX (kx_7_7 hk0)) hml hl.1 ⟨by rw [hRf]; decide, by rw [hRl]; decide⟩ ⟨rfl, rfl⟩ (n := 1) (by decide +kernel) rfl rfl rfl (lv_room (Nat.le_of_ble_eq_true rfl)) d_cPolicy_declares_41 (fun H locs hX hS => ?_)
        refine lv_iconst (v := (-1)) hx hb d_cPolicy_declares_44 (by decide) ?_
        refine lv_icmp_eq hx hb d_cPolicy_declares_45 (tgt := 52) (by decide) (fun hc => ?_) (fun hc => ?_)
        · rw [if_pos hc] at h
          refine lv_iconst (v := 0) hx hb d_cPolicy_declares_52 (by decide) ?_
          obtain rfl := Option.some.inj h
          exact rt_zf hQ hx hb hr hX hS hlk d_cPolicy_declares_53
        · rw [if_neg hc] at h
          refine lv_iconst (v := 1) hx hb d_cPolicy_declares_48 (by decide) ?_
          refine lv_goto hx hb d_cPolicy_declares_49 (tgt := 53) (by decide) ?_
          obtain rfl := Option.some.inj h
          exact rt_zt hQ hx hb hr hX hS hlk d_cPolicy_declares_53
abbrev y_cReader_declare : MethodName := ({ cls := "TypeGuard$Reader", name := "declare", desc := "(LTypeGuard$Names;Z)Z" } : Jvm.MethodName)
theorem d_cReader_declare_0 : decode prog_7_method_23_code 0 = .ok (.aload_n 0, 1) := by decide +kernel
theorem d_cReader_declare_1 : decode prog_7_method_23_code 1 = .ok (.getfield 12, 3) := by decide +kernel
theorem d_cReader_declare_4 : decode prog_7_method_23_code 4 = .ok (.bipush 97, 2) := by decide +kernel
theorem d_cReader_declare_6 : decode prog_7_method_23_code 6 = .ok (.invokevirtual 59, 3) := by decide +kernel
theorem d_cReader_declare_9 : decode prog_7_method_23_code 9 = .ok (.ifCond .ne 9, 3) := by decide +kernel
theorem d_cReader_declare_12 : decode prog_7_method_23_code 12 = .ok (.aload_n 0, 1) := by decide +kernel
theorem d_cReader_declare_13 : decode prog_7_method_23_code 13 = .ok (.iconst 1, 1) := by decide +kernel
theorem d_cReader_declare_14 : decode prog_7_method_23_code 14 = .ok (.invokevirtual 125, 3) := by decide +kernel
theorem d_cReader_declare_17 : decode prog_7_method_23_code 17 = .ok (.ireturn, 1) := by decide +kernel
theorem d_cReader_declare_18 : decode prog_7_method_23_code 18 = .ok (.iload_n 2, 1) := by decide +kernel
theorem d_cReader_declare_19 : decode prog_7_method_23_code 19 = .ok (.ifCond .ne 16, 3) := by decide +kernel
theorem d_cReader_declare_22 : decode prog_7_method_23_code 22 = .ok (.aload_n 0, 1) := by decide +kernel
theorem d_cReader_declare_23 : decode prog_7_method_23_code 23 = .ok (.getfield 12, 3) := by decide +kernel
theorem d_cReader_declare_26 : decode prog_7_method_23_code 26 = .ok (.invokevirtual 78, 3) := by decide +kernel
theorem d_cReader_declare_29 : decode prog_7_method_23_code 29 = .ok (.getstatic 274, 3) := by decide +kernel
theorem d_cReader_declare_32 : decode prog_7_method_23_code 32 = .ok (.if_acmp .eq 9, 3) := by decide +kernel
theorem d_cReader_declare_35 : decode prog_7_method_23_code 35 = .ok (.aload_n 0, 1) := by decide +kernel
theorem d_cReader_declare_36 : decode prog_7_method_23_code 36 = .ok (.iconst 3, 1) := by decide +kernel
theorem d_cReader_declare_37 : decode prog_7_method_23_code 37 = .ok (.invokevirtual 125, 3) := by decide +kernel
theorem d_cReader_declare_40 : decode prog_7_method_23_code 40 = .ok (.ireturn, 1) := by decide +kernel
theorem d_cReader_declare_41 : decode prog_7_method_23_code 41 = .ok (.aload_n 1, 1) := by decide +kernel
theorem d_cReader_declare_42 : decode prog_7_method_23_code 42 = .ok (.aload_n 0, 1) := by decide +kernel
theorem d_cReader_declare_43 : decode prog_7_method_23_code 43 = .ok (.getfield 12, 3) := by decide +kernel
theorem d_cReader_declare_46 : decode prog_7_method_23_code 46 = .ok (.invokevirtual 136, 3) := by decide +kernel
theorem d_cReader_declare_49 : decode prog_7_method_23_code 49 = .ok (.invokevirtual 277, 3) := by decide +kernel
theorem d_cReader_declare_52 : decode prog_7_method_23_code 52 = .ok (.ifCond .ne 9, 3) := by decide +kernel
theorem d_cReader_declare_55 : decode prog_7_method_23_code 55 = .ok (.aload_n 0, 1) := by decide +kernel
theorem d_cReader_declare_56 : decode prog_7_method_23_code 56 = .ok (.iconst 4, 1) := by decide +kernel
theorem d_cReader_declare_57 : decode prog_7_method_23_code 57 = .ok (.invokevirtual 125, 3) := by decide +kernel
theorem d_cReader_declare_60 : decode prog_7_method_23_code 60 = .ok (.ireturn, 1) := by decide +kernel
theorem d_cReader_declare_61 : decode prog_7_method_23_code 61 = .ok (.aload_n 0, 1) := by decide +kernel
theorem d_cReader_declare_62 : decode prog_7_method_23_code 62 = .ok (.getfield 12, 3) := by decide +kernel
theorem d_cReader_declare_65 : decode prog_7_method_23_code 65 = .ok (.invokevirtual 129, 3) := by decide +kernel
theorem d_cReader_declare_68 : decode prog_7_method_23_code 68 = .ok (.iconst 1, 1) := by decide +kernel
theorem d_cReader_declare_69 : decode prog_7_method_23_code 69 = .ok (.ireturn, 1) := by decide +kernel
def cReader_declare_J35 (S_35 : CS) : Option (CS × Bool) := ((cReader_refuse 3 S_35).bind fun q37 => some (q37.1, q37.2))
def cReader_declare (x1 : Nat) (x2 : Bool) (S : CS) : Option (CS × Bool) := ((cTokens_is 97 S).bind fun q6 => (if q6 = true then (if x2 = true then cReader_declare_J35 S else ((cTokens_word S).bind fun q26 => (if q26 < 15 then (if q26 = 0 then ((cTokens_name S).bind fun q46 => ((cNames_add x1 q46 S).bind fun q49 => (if q49.2 = true then ((cTokens_advance q49.1).bind fun q65 => some (q65, true)) else ((cReader_refuse 4 q49.1).bind fun q57 => some (q57.1, q57.2))))) else cReader_declare_J35 S) else none))) else ((cReader_refuse 1 S).bind fun q14 => some (q14.1, q14.2))))
set_option maxHeartbeats 4000000 in
set_option maxRecDepth 100000 in
theorem M_cReader_declare {l : Launch} {D : va_G} {cA : Nat → ClassId} {b : Nat} {ad : Nat → Nat} {x1 : Nat} {x2 : Bool} {S : CS} {T : MS × (Nat → Int64)} {rr : (CS × Bool)} (hk1 : kd x1 = 8) (h : cReader_declare x1 x2 S = some rr) : Met l y_cReader_declare (Cond.code y_cReader_declare prog_7_method_23_code 3 (Option.some Jvm.ClassFile.FieldType.boolean) :: TW) { frames := 2, cells := 0, slots := 0, locals := 45 } (va_Pc [.ref (b + 2), .ref (b + x1), .int (bI x2)] (Rp D cA b ad (S, T))) (Qr D cA b ad (rr.1, T) (some (.int (bI rr.2)))) 0 0 (Ab b) := by
  refine Ct_of (by decide) (Nat.le_of_ble_eq_true rfl) ?_
  intro p e R s m args below meth c ls Q H locs hR hQ hx hb hts hown hml hr hlk hC hX hS hl
  have hRf : R.frames = 2 := by rw [hR]
  have hRl : R.locals = 45 := by rw [hR]
  have hown : s.vm.findClass "TypeGuard$Reader" = some m.cls := hown
  have hl : lv_has ls 3 [(0, .ref (b + 2)), (1, .ref (b + x1)), (2, .int (bI x2))] := hl
  rw [cReader_declare] at h
  refine lv_aload_n hx hb d_cReader_declare_0 rfl (lv_at hl 0 rfl) ?_
  refine c_get_2_0 hx hb hts hown hC hX (by rfl) (hts _ t_227) d_cReader_declare_1 ?_
  refine lv_bipush (v := 97) hx hb d_cReader_declare_4 (by decide) ?_
  obtain ⟨q6, hc6, h⟩ := Option.bind_eq_some_iff.mp h
  refine ck_V (As := [.int 97]) (rest := []) (st1 := [.int (bI q6)]) (M_cTokens_is  hc6) t_547 t_548 t_549 t_550 t_3 hx hb hts hown hC hX hS (hrc_c3 hC hX (by rfl)) hml hl.1 ⟨by rw [hRf]; decide, by rw [hRl]; decide⟩ ⟨rfl, rfl⟩ (n := 1) (by decide +kernel) rfl rfl rfl (lv_room (Nat.le_of_ble_eq_true rfl)) d_cReader_declare_6 (fun H locs hX hS => ?_)
  refine lz_ifne hx hb d_cReader_declare_9 (tgt := 18) (by decide) (fun hc => ?_) (fun hc => ?_)
  · rw [if_pos hc] at h
    refine lv_iload_n hx hb d_cReader_declare_18 rfl (lv_at hl 2 rfl) ?_
    have J35 : ∀  (H : Heap) (locs : List Loc) (ls : Array Slot), hp D cA b ad (S, T) H → va_S (Ab b) s.heap H locs → lv_has ls 3 [(0, .ref (b + 2))] → cReader_declare_J35 S = some rr → W p l e R s m args below meth c H locs 0 0 Q (F0 m 35 ls []) := by
      intro  H locs ls  hX hS hl h
      rw [cReader_declare_J35] at h
      refine lv_aload_n hx hb d_cReader_declare_35 rfl (lv_at hl 0 rfl) ?_
      refine lv_iconst (v := 3) hx hb d_cReader_declare_36 (by decide) ?_
      obtain ⟨q37, hc37, h⟩ := Option.bind_eq_some_iff.mp h
      refine ck_V (As := [.int 3]) (rest := []) (st1 := [.int (bI q37.2)]) (M_cReader_refuse  hc37) t_575 t_577 p_8 t_578 t_2 hx hb hts hown hC hX hS (hrc_c2 hC hX (by rfl)) hml hl.1 ⟨by rw [hRf]; decide, by rw [hRl]; decide⟩ ⟨rfl, rfl⟩ (n := 1) (by decide +kernel) rfl rfl rfl (lv_room (Nat.le_of_ble_eq_true rfl)) d_cReader_declare_37 (fun H locs hX hS => ?_)
      obtain rfl := Option.some.inj h
      exact rt_z hQ hx hb hr hX hS hlk d_cReader_declare_40
    refine lz_ifne hx hb d_cReader_declare_19 (tgt := 35) (by decide) (fun hc => ?_) (fun hc => ?_)
    · rw [if_pos hc] at h
      exact J35  H locs ls  hX hS (lv_sub hl [0] rfl) h
    · rw [if_neg hc] at h
      refine lv_aload_n hx hb d_cReader_declare_22 rfl (lv_at hl 0 rfl) ?_
      refine c_get_2_0 hx hb hts hown hC hX (by rfl) (hts _ t_227) d_cReader_declare_23 ?_
      obtain ⟨q26, hc26, h⟩ := Option.bind_eq_some_iff.mp h
      refine ck_V (As := []) (rest := []) (st1 := [.ref (ad q26)]) (M_cTokens_word  hc26) t_555 t_556 t_557 t_558 t_3 hx hb hts hown hC hX hS (hrc_c3 hC hX (by rfl)) hml hl.1 ⟨by rw [hRf]; decide, by rw [hRl]; decide⟩ ⟨rfl, rfl⟩ (n := 0) (by decide +kernel) rfl rfl rfl (lv_room (Nat.le_of_ble_eq_true rfl)) d_cReader_declare_26 (fun H locs hX hS => ?_)
      by_cases hkq26 : q26 < 15
      rotate_left; · rw [if_neg hkq26] at h; cases h
      rw [if_pos hkq26] at h
      refine st_W (i := 0) hx hb hC hS hown (hts _ t_688) d_cReader_declare_29 (by decide) ?_
      refine lw_acmpeq hx hb (hC.2.2.1) hkq26 (by decide) d_cReader_declare_32 (tgt := 41) (by decide) (fun hc => ?_) (fun hc => ?_)
      · rw [if_pos hc] at h
        refine lv_aload_n hx hb d_cReader_declare_41 rfl (lv_at hl 1 rfl) ?_
        refine lv_aload_n hx hb d_cReader_declare_42 rfl (lv_at hl 0 rfl) ?_
        refine c_get_2_0 hx hb hts hown hC hX (by rfl) (hts _ t_227) d_cReader_declare_43 ?_
        obtain ⟨q46, hc46, h⟩ := Option.bind_eq_some_iff.mp h
        refine ck_V (As := []) (rest := [.ref (b + x1)]) (st1 := [.long q46, .ref (b + x1)]) (M_cTokens_name  hc46) t_609 t_610 t_611 t_612 t_3 hx hb hts hown hC hX hS (hrc_c3 hC hX (by rfl)) hml hl.1 ⟨by rw [hRf]; decide, by rw [hRl]; decide⟩ ⟨rfl, rfl⟩ (n := 0) (by decide +kernel) rfl rfl rfl (lv_room (Nat.le_of_ble_eq_true rfl)) d_cReader_declare_46 (fun H locs hX hS => ?_)
        obtain ⟨q49, hc49, h⟩ := Option.bind_eq_some_iff.mp h
        refine ck_V (As := [.long q46]) (rest := []) (st1 := [.int (bI q49.2)]) (M_cNames_add hk1 hc49) t_689 t_690 t_691 t_692 t_5 hx hb hts hown hC hX hS (hrc_c8 hC hX hk1) hml hl.1 ⟨by rw [hRf]; decide, by rw [hRl]; decide⟩ ⟨rfl, rfl⟩ (n := 1) (by decide +kernel) rfl rfl rfl (lv_room (Nat.le_of_ble_eq_true rfl)) d_cReader_declare_49 (fun H locs hX hS => ?_)
        refine lz_ifne hx hb d_cReader_declare_52 (tgt := 61) (by decide) (fun hc => ?_) (fun hc => ?_)
        · rw [if_pos hc] at h
          refine lv_aload_n hx hb d_cReader_declare_61 rfl (lv_at hl 0 rfl) ?_
          refine c_get_2_0 hx hb hts hown hC hX (by rfl) (hts _ t_227) d_cReader_declare_62 ?_
          obtain ⟨q65, hc65, h⟩ := Option.bind_eq_some_iff.mp h
          refine ck_V (As := []) (rest := []) (st1 := []) (M_cTokens_advance  hc65) t_591 t_592 t_593 t_594 t_3 hx hb hts hown hC hX hS (hrc_c3 hC hX (by rfl)) hml hl.1 ⟨by rw [hRf]; decide, by rw [hRl]; decide⟩ ⟨rfl, rfl⟩ (n := 0) (by decide +kernel) rfl rfl rfl (lv_room (Nat.le_of_ble_eq_true rfl)) d_cReader_declare_65 (fun H locs hX hS => ?_)
          refine lv_iconst (v := 1) hx hb d_cReader_declare_68 (by decide) ?_
          obtain rfl := Option.some.inj h
          exact rt_zt hQ hx hb hr hX hS hlk d_cReader_declare_69
        · rw [if_neg hc] at h
          refine lv_aload_n hx hb d_cReader_declare_55 rfl (lv_at hl 0 rfl) ?_
          refine lv_iconst (v := 4) hx hb d_cReader_declare_56 (by decide) ?_
          obtain ⟨q57, hc57, h⟩ := Option.bind_eq_some_iff.mp h
          refine ck_V (As := [.int 4]) (rest := []) (st1 := [.int (bI q57.2)]) (M_cReader_refuse  hc57) t_575 t_577 p_8 t_578 t_2 hx hb hts hown hC hX hS (hrc_c2 hC hX (by rfl)) hml hl.1 ⟨by rw [hRf]; decide, by rw [hRl]; decide⟩ ⟨rfl, rfl⟩ (n := 1) (by decide +kernel) rfl rfl rfl (lv_room (Nat.le_of_ble_eq_true rfl)) d_cReader_declare_57 (fun H locs hX hS => ?_)
          obtain rfl := Option.some.inj h
          exact rt_z hQ hx hb hr hX hS hlk d_cReader_declare_60
      · rw [if_neg hc] at h
        exact J35  H locs ls  hX hS (lv_sub hl [0] rfl) h
  · rw [if_neg hc] at h
    refine lv_aload_n hx hb d_cReader_declare_12 rfl (lv_at hl 0 rfl) ?_
    refine lv_iconst (v := 1) hx hb d_cReader_declare_13 (by decide) ?_
    obtain ⟨q14, hc14, h⟩ := Option.bind_eq_some_iff.mp h
    refine ck_V (As := [.int 1]) (rest := []) (st1 := [.int (bI q14.2)]) (M_cReader_refuse  hc14) t_575 t_577 p_8 t_578 t_2 hx hb hts hown hC hX hS (hrc_c2 hC hX (by rfl)) hml hl.1 ⟨by rw [hRf]; decide, by rw [hRl]; decide⟩ ⟨rfl, rfl⟩ (n := 1) (by decide +kernel) rfl rfl rfl (lv_room (Nat.le_of_ble_eq_true rfl)) d_cReader_declare_14 (fun H locs hX hS => ?_)
    obtain rfl := Option.some.inj h
    exact rt_z hQ hx hb hr hX hS hlk d_cReader_declare_17
abbrev y_cReader_readClass : MethodName := ({ cls := "TypeGuard$Reader", name := "readClass", desc := "()Z" } : Jvm.MethodName)
theorem d_cReader_readClass_0 : decode prog_7_method_8_code 0 = .ok (.aload_n 0, 1) := by decide +kernel
theorem d_cReader_readClass_1 : decode prog_7_method_8_code 1 = .ok (.getfield 12, 3) := by decide +kernel
theorem d_cReader_readClass_4 : decode prog_7_method_8_code 4 = .ok (.invokevirtual 129, 3) := by decide +kernel
theorem d_cReader_readClass_7 : decode prog_7_method_8_code 7 = .ok (.aload_n 0, 1) := by decide +kernel
theorem d_cReader_readClass_8 : decode prog_7_method_8_code 8 = .ok (.aload_n 0, 1) := by decide +kernel
theorem d_cReader_readClass_9 : decode prog_7_method_8_code 9 = .ok (.getfield 21, 3) := by decide +kernel
theorem d_cReader_readClass_12 : decode prog_7_method_8_code 12 = .ok (.getfield 132, 3) := by decide +kernel
theorem d_cReader_readClass_15 : decode prog_7_method_8_code 15 = .ok (.aload_n 0, 1) := by decide +kernel
theorem d_cReader_readClass_16 : decode prog_7_method_8_code 16 = .ok (.getfield 21, 3) := by decide +kernel
theorem d_cReader_readClass_19 : decode prog_7_method_8_code 19 = .ok (.aload_n 0, 1) := by decide +kernel
theorem d_cReader_readClass_20 : decode prog_7_method_8_code 20 = .ok (.getfield 12, 3) := by decide +kernel
theorem d_cReader_readClass_23 : decode prog_7_method_8_code 23 = .ok (.invokevirtual 136, 3) := by decide +kernel
theorem d_cReader_readClass_26 : decode prog_7_method_8_code 26 = .ok (.invokevirtual 140, 3) := by decide +kernel
theorem d_cReader_readClass_29 : decode prog_7_method_8_code 29 = .ok (.invokevirtual 144, 3) := by decide +kernel
theorem d_cReader_readClass_32 : decode prog_7_method_8_code 32 = .ok (.ifCond .eq 12, 3) := by decide +kernel
theorem d_cReader_readClass_35 : decode prog_7_method_8_code 35 = .ok (.aload_n 0, 1) := by decide +kernel
theorem d_cReader_readClass_36 : decode prog_7_method_8_code 36 = .ok (.bipush 123, 2) := by decide +kernel
theorem d_cReader_readClass_38 : decode prog_7_method_8_code 38 = .ok (.invokevirtual 148, 3) := by decide +kernel
theorem d_cReader_readClass_41 : decode prog_7_method_8_code 41 = .ok (.ifCond .ne 5, 3) := by decide +kernel
theorem d_cReader_readClass_44 : decode prog_7_method_8_code 44 = .ok (.iconst 0, 1) := by decide +kernel
theorem d_cReader_readClass_45 : decode prog_7_method_8_code 45 = .ok (.ireturn, 1) := by decide +kernel
theorem d_cReader_readClass_46 : decode prog_7_method_8_code 46 = .ok (.aload_n 0, 1) := by decide +kernel
theorem d_cReader_readClass_47 : decode prog_7_method_8_code 47 = .ok (.getfield 21, 3) := by decide +kernel
theorem d_cReader_readClass_50 : decode prog_7_method_8_code 50 = .ok (.getfield 151, 3) := by decide +kernel
theorem d_cReader_readClass_53 : decode prog_7_method_8_code 53 = .ok (.aload_n 0, 1) := by decide +kernel
theorem d_cReader_readClass_54 : decode prog_7_method_8_code 54 = .ok (.getfield 21, 3) := by decide +kernel
theorem d_cReader_readClass_57 : decode prog_7_method_8_code 57 = .ok (.getfield 132, 3) := by decide +kernel
theorem d_cReader_readClass_60 : decode prog_7_method_8_code 60 = .ok (.getfield 155, 3) := by decide +kernel
theorem d_cReader_readClass_63 : decode prog_7_method_8_code 63 = .ok (.iconst 1, 1) := by decide +kernel
theorem d_cReader_readClass_64 : decode prog_7_method_8_code 64 = .ok (.isub, 1) := by decide +kernel
theorem d_cReader_readClass_65 : decode prog_7_method_8_code 65 = .ok (.aaload, 1) := by decide +kernel
theorem d_cReader_readClass_66 : decode prog_7_method_8_code 66 = .ok (.astore_n 1, 1) := by decide +kernel
theorem d_cReader_readClass_67 : decode prog_7_method_8_code 67 = .ok (.iconst 0, 1) := by decide +kernel
theorem d_cReader_readClass_68 : decode prog_7_method_8_code 68 = .ok (.istore_n 2, 1) := by decide +kernel
theorem d_cReader_readClass_69 : decode prog_7_method_8_code 69 = .ok (.iload_n 2, 1) := by decide +kernel
theorem d_cReader_readClass_70 : decode prog_7_method_8_code 70 = .ok (.bipush 8, 2) := by decide +kernel
theorem d_cReader_readClass_72 : decode prog_7_method_8_code 72 = .ok (.if_icmp .gt 54, 3) := by decide +kernel
theorem d_cReader_readClass_75 : decode prog_7_method_8_code 75 = .ok (.aload_n 0, 1) := by decide +kernel
theorem d_cReader_readClass_76 : decode prog_7_method_8_code 76 = .ok (.aload_n 1, 1) := by decide +kernel
theorem d_cReader_readClass_77 : decode prog_7_method_8_code 77 = .ok (.aload_n 1, 1) := by decide +kernel
theorem d_cReader_readClass_78 : decode prog_7_method_8_code 78 = .ok (.aload_n 0, 1) := by decide +kernel
theorem d_cReader_readClass_79 : decode prog_7_method_8_code 79 = .ok (.getfield 12, 3) := by decide +kernel
theorem d_cReader_readClass_82 : decode prog_7_method_8_code 82 = .ok (.invokevirtual 136, 3) := by decide +kernel
theorem d_cReader_readClass_85 : decode prog_7_method_8_code 85 = .ok (.invokevirtual 160, 3) := by decide +kernel
theorem d_cReader_readClass_88 : decode prog_7_method_8_code 88 = .ok (.iconst (-1), 1) := by decide +kernel
theorem d_cReader_readClass_89 : decode prog_7_method_8_code 89 = .ok (.if_icmp .eq 7, 3) := by decide +kernel
theorem d_cReader_readClass_92 : decode prog_7_method_8_code 92 = .ok (.iconst 1, 1) := by decide +kernel
theorem d_cReader_readClass_93 : decode prog_7_method_8_code 93 = .ok (.goto 4, 3) := by decide +kernel
theorem d_cReader_readClass_96 : decode prog_7_method_8_code 96 = .ok (.iconst 0, 1) := by decide +kernel
theorem d_cReader_readClass_97 : decode prog_7_method_8_code 97 = .ok (.invokevirtual 144, 3) := by decide +kernel
theorem d_cReader_readClass_100 : decode prog_7_method_8_code 100 = .ok (.ifCond .ne 5, 3) := by decide +kernel
theorem d_cReader_readClass_103 : decode prog_7_method_8_code 103 = .ok (.iconst 0, 1) := by decide +kernel
theorem d_cReader_readClass_104 : decode prog_7_method_8_code 104 = .ok (.ireturn, 1) := by decide +kernel
theorem d_cReader_readClass_105 : decode prog_7_method_8_code 105 = .ok (.aload_n 0, 1) := by decide +kernel
theorem d_cReader_readClass_106 : decode prog_7_method_8_code 106 = .ok (.getfield 12, 3) := by decide +kernel
theorem d_cReader_readClass_109 : decode prog_7_method_8_code 109 = .ok (.bipush 97, 2) := by decide +kernel
theorem d_cReader_readClass_111 : decode prog_7_method_8_code 111 = .ok (.invokevirtual 59, 3) := by decide +kernel
theorem d_cReader_readClass_114 : decode prog_7_method_8_code 114 = .ok (.ifCond .ne 6, 3) := by decide +kernel
theorem d_cReader_readClass_117 : decode prog_7_method_8_code 117 = .ok (.goto 9, 3) := by decide +kernel
theorem d_cReader_readClass_120 : decode prog_7_method_8_code 120 = .ok (.iinc 2 1, 3) := by decide +kernel
theorem d_cReader_readClass_123 : decode prog_7_method_8_code 123 = .ok (.goto (-54), 3) := by decide +kernel
theorem d_cReader_readClass_126 : decode prog_7_method_8_code 126 = .ok (.aload_n 0, 1) := by decide +kernel
theorem d_cReader_readClass_127 : decode prog_7_method_8_code 127 = .ok (.bipush 125, 2) := by decide +kernel
theorem d_cReader_readClass_129 : decode prog_7_method_8_code 129 = .ok (.invokevirtual 148, 3) := by decide +kernel
theorem d_cReader_readClass_132 : decode prog_7_method_8_code 132 = .ok (.ifCond .eq 16, 3) := by decide +kernel
theorem d_cReader_readClass_135 : decode prog_7_method_8_code 135 = .ok (.aload_n 0, 1) := by decide +kernel
theorem d_cReader_readClass_136 : decode prog_7_method_8_code 136 = .ok (.bipush 59, 2) := by decide +kernel
theorem d_cReader_readClass_138 : decode prog_7_method_8_code 138 = .ok (.invokevirtual 148, 3) := by decide +kernel
theorem d_cReader_readClass_141 : decode prog_7_method_8_code 141 = .ok (.ifCond .eq 7, 3) := by decide +kernel
theorem d_cReader_readClass_144 : decode prog_7_method_8_code 144 = .ok (.iconst 1, 1) := by decide +kernel
theorem d_cReader_readClass_145 : decode prog_7_method_8_code 145 = .ok (.goto 4, 3) := by decide +kernel
theorem d_cReader_readClass_148 : decode prog_7_method_8_code 148 = .ok (.iconst 0, 1) := by decide +kernel
theorem d_cReader_readClass_149 : decode prog_7_method_8_code 149 = .ok (.ireturn, 1) := by decide +kernel
def cReader_readClass_J126 (S_126 : CS) : Option (CS × Bool) := ((cReader_expect 125 S_126).bind fun q129 => (if q129.2 = true then ((cReader_expect 59 q129.1).bind fun q138 => (if q138.2 = true then some (q138.1, true) else some (q138.1, false))) else some (q129.1, false)))
def cReader_readClass_J97 (kO69 : Int32 → CS → Option (CS × Bool)) (v1_97 : Nat) (v2_97 : Int32) (s0_97 : Bool) (s1_97 : Nat) (S_97 : CS) : Option (CS × Bool) := ((cReader_declare s1_97 s0_97 S_97).bind fun q97 => (if q97.2 = true then ((cTokens_is 97 q97.1).bind fun q111 => (if q111 = true then (bd ((v2_97 + 1)) fun a120 => kO69 a120 q97.1) else cReader_readClass_J126 q97.1)) else some (q97.1, false)))
def cReader_readClass_L69 (v1_69 : Nat) : Nat → Int32 → CS → Option (CS × Bool)
  | 0, _, _ => none
  | n + 1, v2_69, S_69 => (if 8 < v2_69 then cReader_readClass_J126 S_69 else ((cTokens_name S_69).bind fun q82 => ((cNames_numberOf v1_69 q82 S_69).bind fun q85 => (if q85 = (-1) then cReader_readClass_J97 (cReader_readClass_L69 v1_69 n) v1_69 v2_69 false v1_69 S_69 else cReader_readClass_J97 (cReader_readClass_L69 v1_69 n) v1_69 v2_69 true v1_69 S_69))))
def cReader_readClass (S : CS) : Option (CS × Bool) := ((cTokens_advance S).bind fun q4 => (bd (gR q4 2 1) fun r9 => (if kd r9 = 7 then (bd (gR q4 2 1) fun r16 => (if kd r16 = 7 then ((cTokens_name q4).bind fun q23 => ((cPolicy_declares r16 q23 q4).bind fun q26 => ((cReader_declare (r9 + 5) q26 q4).bind fun q29 => (if q29.2 = true then ((cReader_expect 123 q29.1).bind fun q38 => (if q38.2 = true then (bd (gR q38.1 2 1) fun r47 => (if kd r47 = 7 then (bd (gR q38.1 2 1) fun r54 => (if kd r54 = 7 then (if inbd ((gI q38.1 (r54 + 5) 1) - 1) 4 = true then (bd (((r47 + 9) + (4 + 2 * txN ((gI q38.1 (r54 + 5) 1) - 1)))) fun a65 => cReader_readClass_L69 a65 600 0 q38.1) else none) else none)) else none)) else some (q38.1, false))) else some (q29.1, false))))) else none)) else none)))
set_option maxHeartbeats 4000000 in
set_option maxRecDepth 100000 in
theorem M_cReader_readClass {l : Launch} {D : va_G} {cA : Nat → ClassId} {b : Nat} {ad : Nat → Nat}  {S : CS} {T : MS × (Nat → Int64)} {rr : (CS × Bool)}  (h : cReader_readClass  S = some rr) : Met l y_cReader_readClass (Cond.code y_cReader_readClass prog_7_method_8_code 3 (Option.some Jvm.ClassFile.FieldType.boolean) :: TW) { frames := 3, cells := 0, slots := 0, locals := 67 } (va_Pc [.ref (b + 2)] (Rp D cA b ad (S, T))) (Qr D cA b ad (rr.1, T) (some (.int (bI rr.2)))) 0 0 (Ab b) := by
  refine Ct_of (by decide) (Nat.le_of_ble_eq_true rfl) ?_
  intro p e R s m args below meth c ls Q H locs hR hQ hx hb hts hown hml hr hlk hC hX hS hl
  have hRf : R.frames = 3 := by rw [hR]
  have hRl : R.locals = 67 := by rw [hR]
  have hown : s.vm.findClass "TypeGuard$Reader" = some m.cls := hown
  have hl : lv_has ls 3 [(0, .ref (b + 2))] := hl
  rw [cReader_readClass] at h
  refine lv_aload_n hx hb d_cReader_readClass_0 rfl (lv_at hl 0 rfl) ?_
  refine c_get_2_0 hx hb hts hown hC hX (by rfl) (hts _ t_227) d_cReader_readClass_1 ?_
  obtain ⟨q4, hc4, h⟩ := Option.bind_eq_some_iff.mp h
  refine ck_V (As := []) (rest := []) (st1 := []) (M_cTokens_advance  hc4) t_591 t_592 t_593 t_594 t_3 hx hb hts hown hC hX hS (hrc_c3 hC hX (by rfl)) hml hl.1 ⟨by rw [hRf]; decide, by rw [hRl]; decide⟩ ⟨rfl, rfl⟩ (n := 0) (by decide +kernel) rfl rfl rfl (lv_room (Nat.le_of_ble_eq_true rfl)) d_cReader_readClass_4 (fun H locs hX hS => ?_)
  refine lv_aload_n hx hb d_cReader_readClass_7 rfl (lv_at hl 0 rfl) ?_
  refine lv_aload_n hx hb d_cReader_readClass_8 rfl (lv_at hl 0 rfl) ?_
  refine c_get_2_1 hx hb hts hown hC hX (by rfl) (hts _ t_228) d_cReader_readClass_9 ?_
  obtain ⟨r9, e9, h⟩ := bd_some h
  refine lt_R e9 ?_
  by_cases hkr9 : kd r9 = 7
  rotate_left; · rw [if_neg hkr9] at h; cases h
  rw [if_pos hkr9] at h
  refine c_get_7_2N (k := r9) hx hb hts hown hC hX hkr9 (va_Nw.use rfl (hC.2.1 _ t_192)) d_cReader_readClass_12 ?_
  refine lv_aload_n hx hb d_cReader_readClass_15 rfl (lv_at hl 0 rfl) ?_
  refine c_get_2_1 hx hb hts hown hC hX (by rfl) (hts _ t_228) d_cReader_readClass_16 ?_
  obtain ⟨r16, e16, h⟩ := bd_some h
  refine lt_R e16 ?_
  by_cases hkr16 : kd r16 = 7
  rotate_left; · rw [if_neg hkr16] at h; cases h
  rw [if_pos hkr16] at h
  refine lv_aload_n hx hb d_cReader_readClass_19 rfl (lv_at hl 0 rfl) ?_
  refine c_get_2_0 hx hb hts hown hC hX (by rfl) (hts _ t_227) d_cReader_readClass_20 ?_
  obtain ⟨q23, hc23, h⟩ := Option.bind_eq_some_iff.mp h
  refine ck_V (As := []) (rest := [.ref (b + r16), .ref (b + (r9 + 5)), .ref (b + 2)]) (st1 := [.long q23, .ref (b + r16), .ref (b + (r9 + 5)), .ref (b + 2)]) (M_cTokens_name  hc23) t_609 t_610 t_611 t_612 t_3 hx hb hts hown hC hX hS (hrc_c3 hC hX (by rfl)) hml hl.1 ⟨by rw [hRf]; decide, by rw [hRl]; decide⟩ ⟨rfl, rfl⟩ (n := 0) (by decide +kernel) rfl rfl rfl (lv_room (Nat.le_of_ble_eq_true rfl)) d_cReader_readClass_23 (fun H locs hX hS => ?_)
  obtain ⟨q26, hc26, h⟩ := Option.bind_eq_some_iff.mp h
  refine ck_V (As := [.long q23]) (rest := [.ref (b + (r9 + 5)), .ref (b + 2)]) (st1 := [.int (bI q26), .ref (b + (r9 + 5)), .ref (b + 2)]) (M_cPolicy_declares hkr16 hc26) t_679 t_680 t_681 t_682 t_4 hx hb hts hown hC hX hS (hrc_c7 hC hX hkr16) hml hl.1 ⟨by rw [hRf]; decide, by rw [hRl]; decide⟩ ⟨rfl, rfl⟩ (n := 1) (by decide +kernel) rfl rfl rfl (lv_room (Nat.le_of_ble_eq_true rfl)) d_cReader_readClass_26 (fun H locs hX hS => ?_)
  obtain ⟨q29, hc29, h⟩ := Option.bind_eq_some_iff.mp h
  refine ck_V (As := [.ref (b + (r9 + 5)), .int (bI q26)]) (rest := []) (st1 := [.int (bI q29.2)]) (M_cReader_declare (kx_7_5 hkr9) hc29) t_684 t_686 p_20 t_687 t_2 hx hb hts hown hC hX hS (hrc_c2 hC hX (by rfl)) hml hl.1 ⟨by rw [hRf]; decide, by rw [hRl]; decide⟩ ⟨rfl, rfl⟩ (n := 2) (by decide +kernel) rfl rfl rfl (lv_room (Nat.le_of_ble_eq_true rfl)) d_cReader_readClass_29 (fun H locs hX hS => ?_)
  refine lz_ifeq hx hb d_cReader_readClass_32 (tgt := 44) (by decide) (fun hc => ?_) (fun hc => ?_)
  · rw [if_neg hc] at h
    refine lv_iconst (v := 0) hx hb d_cReader_readClass_44 (by decide) ?_
    obtain rfl := Option.some.inj h
    exact rt_zf hQ hx hb hr hX hS hlk d_cReader_readClass_45
  · rw [if_pos hc] at h
    refine lv_aload_n hx hb d_cReader_readClass_35 rfl (lv_at hl 0 rfl) ?_
    refine lv_bipush (v := 123) hx hb d_cReader_readClass_36 (by decide) ?_
    obtain ⟨q38, hc38, h⟩ := Option.bind_eq_some_iff.mp h
    refine ck_V (As := [.int 123]) (rest := []) (st1 := [.int (bI q38.2)]) (M_cReader_expect  hc38) t_624 t_626 p_11 t_627 t_2 hx hb hts hown hC hX hS (hrc_c2 hC hX (by rfl)) hml hl.1 ⟨by rw [hRf]; decide, by rw [hRl]; decide⟩ ⟨rfl, rfl⟩ (n := 1) (by decide +kernel) rfl rfl rfl (lv_room (Nat.le_of_ble_eq_true rfl)) d_cReader_readClass_38 (fun H locs hX hS => ?_)
    refine lz_ifne hx hb d_cReader_readClass_41 (tgt := 46) (by decide) (fun hc => ?_) (fun hc => ?_)
    · rw [if_pos hc] at h
      refine lv_aload_n hx hb d_cReader_readClass_46 rfl (lv_at hl 0 rfl) ?_
      refine c_get_2_1 hx hb hts hown hC hX (by rfl) (hts _ t_228) d_cReader_readClass_47 ?_
      obtain ⟨r47, e47, h⟩ := bd_some h
      refine lt_R e47 ?_
      by_cases hkr47 : kd r47 = 7
      rotate_left; · rw [if_neg hkr47] at h; cases h
      rw [if_pos hkr47] at h
      refine c_get_7_4N (k := r47) hx hb hts hown hC hX hkr47 (va_Nw.use rfl (hC.2.1 _ t_197)) d_cReader_readClass_50 ?_
      refine lv_aload_n hx hb d_cReader_readClass_53 rfl (lv_at hl 0 rfl) ?_
      refine c_get_2_1 hx hb hts hown hC hX (by rfl) (hts _ t_228) d_cReader_readClass_54 ?_
      obtain ⟨r54, e54, h⟩ := bd_some h
      refine lt_R e54 ?_
      by_cases hkr54 : kd r54 = 7
      rotate_left; · rw [if_neg hkr54] at h; cases h
      rw [if_pos hkr54] at h
      refine c_get_7_2N (k := r54) hx hb hts hown hC hX hkr54 (va_Nw.use rfl (hC.2.1 _ t_192)) d_cReader_readClass_57 ?_
      refine c_get_8_1N (k := (r54 + 5)) hx hb hts hown hC hX (kx_7_5 hkr54) (va_Nw.use rfl (hC.2.1 _ t_82)) d_cReader_readClass_60 ?_
      refine lv_iconst (v := 1) hx hb d_cReader_readClass_63 (by decide) ?_
      refine lv_isub hx hb d_cReader_readClass_64 ?_
      by_cases hg65 : inbd ((gI q38.1 (r54 + 5) 1) - 1) 4 = true
      rotate_left; · rw [if_neg hg65] at h; cases h
      rw [if_pos hg65] at h
      refine c_ald_10 (k := (r47 + 9)) hx hb hC hX (kx_7_9 hkr47) hg65 d_cReader_readClass_65 ?_
      obtain ⟨a65, e65, h⟩ := bd_some h
      refine lt_R e65 ?_
      have hka65 := (ke_10 (k := (r47 + 9)) (kx_7_9 hkr47) (inbd_lt hg65))
      rw [← e65] at hka65
      refine lv_astore_n (lv' := [(1, .ref (b + a65)), (0, .ref (b + 2))]) hx hb d_cReader_readClass_66 rfl hl (by decide) rfl (fun ls hl => ?_)
      refine lv_iconst (v := 0) hx hb d_cReader_readClass_67 (by decide) ?_
      refine lv_istore_n (lv' := [(2, .int 0), (1, .ref (b + a65)), (0, .ref (b + 2))]) hx hb d_cReader_readClass_68 rfl hl (by decide) rfl (fun ls hl => ?_)
      have L69 : ∀ (n69 : Nat) (v2_69 : Int32) (S_69 : CS) (H : Heap) (locs : List Loc) (ls : Array Slot), hp D cA b ad (S_69, T) H → va_S (Ab b) s.heap H locs → lv_has ls 3 [(0, .ref (b + 2)), (1, .ref (b + a65)), (2, .int v2_69)] → cReader_readClass_L69 a65 n69 v2_69 S_69 = some rr → W p l e R s m args below meth c H locs 0 0 Q (F0 m 69 ls []) := by
        intro n69; induction n69 with
        | zero => intro v2_69 S_69 H locs ls  hX hS hl h; rw [cReader_readClass_L69] at h; cases h
        | succ n69 ih69 =>
          intro v2_69 S_69 H locs ls  hX hS hl h
          rw [cReader_readClass_L69] at h
          refine lv_iload_n hx hb d_cReader_readClass_69 rfl (lv_at hl 2 rfl) ?_
          refine lv_bipush (v := 8) hx hb d_cReader_readClass_70 (by decide) ?_
          have J126 : ∀ (S_126 : CS) (H : Heap) (locs : List Loc) (ls : Array Slot), hp D cA b ad (S_126, T) H → va_S (Ab b) s.heap H locs → lv_has ls 3 [(0, .ref (b + 2))] → cReader_readClass_J126 S_126 = some rr → W p l e R s m args below meth c H locs 0 0 Q (F0 m 126 ls []) := by
            intro S_126 H locs ls  hX hS hl h
            rw [cReader_readClass_J126] at h
            refine lv_aload_n hx hb d_cReader_readClass_126 rfl (lv_at hl 0 rfl) ?_
            refine lv_bipush (v := 125) hx hb d_cReader_readClass_127 (by decide) ?_
            obtain ⟨q129, hc129, h⟩ := Option.bind_eq_some_iff.mp h
            refine ck_V (As := [.int 125]) (rest := []) (st1 := [.int (bI q129.2)]) (M_cReader_expect  hc129) t_624 t_626 p_11 t_627 t_2 hx hb hts hown hC hX hS (hrc_c2 hC hX (by rfl)) hml hl.1 ⟨by rw [hRf]; decide, by rw [hRl]; decide⟩ ⟨rfl, rfl⟩ (n := 1) (by decide +kernel) rfl rfl rfl (lv_room (Nat.le_of_ble_eq_true rfl)) d_cReader_readClass_129 (fun H locs hX hS => ?_)
            refine lz_ifeq hx hb d_cReader_readClass_132 (tgt := 148) (by decide) (fun hc => ?_) (fun hc => ?_)
            · rw [if_neg hc] at h
              refine lv_iconst (v := 0) hx hb d_cReader_readClass_148 (by decide) ?_
              obtain rfl := Option.some.inj h
              exact rt_zf hQ hx hb hr hX hS hlk d_cReader_readClass_149
            · rw [if_pos hc] at h
              refine lv_aload_n hx hb d_cReader_readClass_135 rfl (lv_at hl 0 rfl) ?_
              refine lv_bipush (v := 59) hx hb d_cReader_readClass_136 (by decide) ?_
              obtain ⟨q138, hc138, h⟩ := Option.bind_eq_some_iff.mp h
              refine ck_V (As := [.int 59]) (rest := []) (st1 := [.int (bI q138.2)]) (M_cReader_expect  hc138) t_624 t_626 p_11 t_627 t_2 hx hb hts hown hC hX hS (hrc_c2 hC hX (by rfl)) hml hl.1 ⟨by rw [hRf]; decide, by rw [hRl]; decide⟩ ⟨rfl, rfl⟩ (n := 1) (by decide +kernel) rfl rfl rfl (lv_room (Nat.le_of_ble_eq_true rfl)) d_cReader_readClass_138 (fun H locs hX hS => ?_)
              refine lz_ifeq hx hb d_cReader_readClass_141 (tgt := 148) (by decide) (fun hc => ?_) (fun hc => ?_)
              · rw [if_neg hc] at h
                refine lv_iconst (v := 0) hx hb d_cReader_readClass_148 (by decide) ?_
                obtain rfl := Option.some.inj h
                exact rt_zf hQ hx hb hr hX hS hlk d_cReader_readClass_149
              · rw [if_pos hc] at h
                refine lv_iconst (v := 1) hx hb d_cReader_readClass_144 (by decide) ?_
                refine lv_goto hx hb d_cReader_readClass_145 (tgt := 149) (by decide) ?_
                obtain rfl := Option.some.inj h
                exact rt_zt hQ hx hb hr hX hS hlk d_cReader_readClass_149
          refine lv_icmp_gt hx hb d_cReader_readClass_72 (tgt := 126) (by decide) (fun hc => ?_) (fun hc => ?_)
          · rw [if_pos hc] at h
            exact J126 S_69 H locs ls  hX hS (lv_sub hl [0] rfl) h
          · rw [if_neg hc] at h
            refine lv_aload_n hx hb d_cReader_readClass_75 rfl (lv_at hl 0 rfl) ?_
            refine lv_aload_n hx hb d_cReader_readClass_76 rfl (lv_at hl 1 rfl) ?_
            refine lv_aload_n hx hb d_cReader_readClass_77 rfl (lv_at hl 1 rfl) ?_
            refine lv_aload_n hx hb d_cReader_readClass_78 rfl (lv_at hl 0 rfl) ?_
            refine c_get_2_0 hx hb hts hown hC hX (by rfl) (hts _ t_227) d_cReader_readClass_79 ?_
            obtain ⟨q82, hc82, h⟩ := Option.bind_eq_some_iff.mp h
            refine ck_V (As := []) (rest := [.ref (b + a65), .ref (b + a65), .ref (b + 2)]) (st1 := [.long q82, .ref (b + a65), .ref (b + a65), .ref (b + 2)]) (M_cTokens_name  hc82) t_609 t_610 t_611 t_612 t_3 hx hb hts hown hC hX hS (hrc_c3 hC hX (by rfl)) hml hl.1 ⟨by rw [hRf]; decide, by rw [hRl]; decide⟩ ⟨rfl, rfl⟩ (n := 0) (by decide +kernel) rfl rfl rfl (lv_room (Nat.le_of_ble_eq_true rfl)) d_cReader_readClass_82 (fun H locs hX hS => ?_)
            obtain ⟨q85, hc85, h⟩ := Option.bind_eq_some_iff.mp h
            refine ck_V (As := [.long q82]) (rest := [.ref (b + a65), .ref (b + 2)]) (st1 := [.int q85, .ref (b + a65), .ref (b + 2)]) (M_cNames_numberOf hka65 hc85) t_613 t_386 t_387 t_388 t_5 hx hb hts hown hC hX hS (hrc_c8 hC hX hka65) hml hl.1 ⟨by rw [hRf]; decide, by rw [hRl]; decide⟩ ⟨rfl, rfl⟩ (n := 1) (by decide +kernel) rfl rfl rfl (lv_room (Nat.le_of_ble_eq_true rfl)) d_cReader_readClass_85 (fun H locs hX hS => ?_)
            refine lv_iconst (v := (-1)) hx hb d_cReader_readClass_88 (by decide) ?_
            have J97 : ∀ (s0_97 : Bool) (H : Heap) (locs : List Loc) (ls : Array Slot), hp D cA b ad (S_69, T) H → va_S (Ab b) s.heap H locs → lv_has ls 3 [(0, .ref (b + 2)), (1, .ref (b + a65)), (2, .int v2_69)] → cReader_readClass_J97 (cReader_readClass_L69 a65 n69) a65 v2_69 s0_97 a65 S_69 = some rr → W p l e R s m args below meth c H locs 0 0 Q (F0 m 97 ls [.int (bI s0_97), .ref (b + a65), .ref (b + 2)]) := by
              intro s0_97 H locs ls  hX hS hl h
              rw [cReader_readClass_J97] at h
              obtain ⟨q97, hc97, h⟩ := Option.bind_eq_some_iff.mp h
              refine ck_V (As := [.ref (b + a65), .int (bI s0_97)]) (rest := []) (st1 := [.int (bI q97.2)]) (M_cReader_declare hka65 hc97) t_684 t_686 p_20 t_687 t_2 hx hb hts hown hC hX hS (hrc_c2 hC hX (by rfl)) hml hl.1 ⟨by rw [hRf]; decide, by rw [hRl]; decide⟩ ⟨rfl, rfl⟩ (n := 2) (by decide +kernel) rfl rfl rfl (lv_room (Nat.le_of_ble_eq_true rfl)) d_cReader_readClass_97 (fun H locs hX hS => ?_)
              refine lz_ifne hx hb d_cReader_readClass_100 (tgt := 105) (by decide) (fun hc => ?_) (fun hc => ?_)
              · rw [if_pos hc] at h
                refine lv_aload_n hx hb d_cReader_readClass_105 rfl (lv_at hl 0 rfl) ?_
                refine c_get_2_0 hx hb hts hown hC hX (by rfl) (hts _ t_227) d_cReader_readClass_106 ?_
                refine lv_bipush (v := 97) hx hb d_cReader_readClass_109 (by decide) ?_
                obtain ⟨q111, hc111, h⟩ := Option.bind_eq_some_iff.mp h
                refine ck_V (As := [.int 97]) (rest := []) (st1 := [.int (bI q111)]) (M_cTokens_is  hc111) t_547 t_548 t_549 t_550 t_3 hx hb hts hown hC hX hS (hrc_c3 hC hX (by rfl)) hml hl.1 ⟨by rw [hRf]; decide, by rw [hRl]; decide⟩ ⟨rfl, rfl⟩ (n := 1) (by decide +kernel) rfl rfl rfl (lv_room (Nat.le_of_ble_eq_true rfl)) d_cReader_readClass_111 (fun H locs hX hS => ?_)
                refine lz_ifne hx hb d_cReader_readClass_114 (tgt := 120) (by decide) (fun hc => ?_) (fun hc => ?_)
                · rw [if_pos hc] at h
                  obtain ⟨a120, e120, h⟩ := bd_some h
                  refine lv_iinc (v := a120) (lv' := [(2, .int a120), (0, .ref (b + 2)), (1, .ref (b + a65))]) hx hb d_cReader_readClass_120 hl (k := 2) rfl e120.symm (by decide) rfl (fun ls hl => ?_)
                  refine lv_goto hx hb d_cReader_readClass_123 (tgt := 69) (by decide) ?_
                  exact ih69 a120 q97.1 H locs ls  hX hS (lv_sub hl [1, 2, 0] rfl) h
                · rw [if_neg hc] at h
                  refine lv_goto hx hb d_cReader_readClass_117 (tgt := 126) (by decide) ?_
                  exact J126 q97.1 H locs ls  hX hS (lv_sub hl [0] rfl) h
              · rw [if_neg hc] at h
                refine lv_iconst (v := 0) hx hb d_cReader_readClass_103 (by decide) ?_
                obtain rfl := Option.some.inj h
                exact rt_zf hQ hx hb hr hX hS hlk d_cReader_readClass_104
            refine lv_icmp_eq hx hb d_cReader_readClass_89 (tgt := 96) (by decide) (fun hc => ?_) (fun hc => ?_)
            · rw [if_pos hc] at h
              refine lv_iconst (v := 0) hx hb d_cReader_readClass_96 (by decide) ?_
              exact J97 false H locs ls  hX hS (lv_sub hl [0, 1, 2] rfl) h
            · rw [if_neg hc] at h
              refine lv_iconst (v := 1) hx hb d_cReader_readClass_92 (by decide) ?_
              refine lv_goto hx hb d_cReader_readClass_93 (tgt := 97) (by decide) ?_
              exact J97 true H locs ls  hX hS (lv_sub hl [0, 1, 2] rfl) h
      exact L69 600 0 q38.1 H locs ls  hX hS (lv_sub hl [2, 1, 0] rfl) h
    · rw [if_neg hc] at h
      refine lv_iconst (v := 0) hx hb d_cReader_readClass_44 (by decide) ?_
      obtain rfl := Option.some.inj h
      exact rt_zf hQ hx hb hr hX hS hlk d_cReader_readClass_45
abbrev y_cReader_readAttribute : MethodName := ({ cls := "TypeGuard$Reader", name := "readAttribute", desc := "()Z" } : Jvm.MethodName)
theorem d_cReader_readAttribute_0 : decode prog_7_method_9_code 0 = .ok (.aload_n 0, 1) := by decide +kernel
theorem d_cReader_readAttribute_1 : decode prog_7_method_9_code 1 = .ok (.getfield 12, 3) := by decide +kernel
theorem d_cReader_readAttribute_4 : decode prog_7_method_9_code 4 = .ok (.invokevirtual 129, 3) := by decide +kernel
theorem d_cReader_readAttribute_7 : decode prog_7_method_9_code 7 = .ok (.aload_n 0, 1) := by decide +kernel
theorem d_cReader_readAttribute_8 : decode prog_7_method_9_code 8 = .ok (.aload_n 0, 1) := by decide +kernel
theorem d_cReader_readAttribute_9 : decode prog_7_method_9_code 9 = .ok (.getfield 21, 3) := by decide +kernel
theorem d_cReader_readAttribute_12 : decode prog_7_method_9_code 12 = .ok (.getfield 164, 3) := by decide +kernel
theorem d_cReader_readAttribute_15 : decode prog_7_method_9_code 15 = .ok (.aload_n 0, 1) := by decide +kernel
theorem d_cReader_readAttribute_16 : decode prog_7_method_9_code 16 = .ok (.getfield 21, 3) := by decide +kernel
theorem d_cReader_readAttribute_19 : decode prog_7_method_9_code 19 = .ok (.aload_n 0, 1) := by decide +kernel
theorem d_cReader_readAttribute_20 : decode prog_7_method_9_code 20 = .ok (.getfield 12, 3) := by decide +kernel
theorem d_cReader_readAttribute_23 : decode prog_7_method_9_code 23 = .ok (.invokevirtual 136, 3) := by decide +kernel
theorem d_cReader_readAttribute_26 : decode prog_7_method_9_code 26 = .ok (.invokevirtual 140, 3) := by decide +kernel
theorem d_cReader_readAttribute_29 : decode prog_7_method_9_code 29 = .ok (.invokevirtual 144, 3) := by decide +kernel
theorem d_cReader_readAttribute_32 : decode prog_7_method_9_code 32 = .ok (.ifCond .eq 16, 3) := by decide +kernel
theorem d_cReader_readAttribute_35 : decode prog_7_method_9_code 35 = .ok (.aload_n 0, 1) := by decide +kernel
theorem d_cReader_readAttribute_36 : decode prog_7_method_9_code 36 = .ok (.bipush 59, 2) := by decide +kernel
theorem d_cReader_readAttribute_38 : decode prog_7_method_9_code 38 = .ok (.invokevirtual 148, 3) := by decide +kernel
theorem d_cReader_readAttribute_41 : decode prog_7_method_9_code 41 = .ok (.ifCond .eq 7, 3) := by decide +kernel
theorem d_cReader_readAttribute_44 : decode prog_7_method_9_code 44 = .ok (.iconst 1, 1) := by decide +kernel
theorem d_cReader_readAttribute_45 : decode prog_7_method_9_code 45 = .ok (.goto 4, 3) := by decide +kernel
theorem d_cReader_readAttribute_48 : decode prog_7_method_9_code 48 = .ok (.iconst 0, 1) := by decide +kernel
theorem d_cReader_readAttribute_49 : decode prog_7_method_9_code 49 = .ok (.ireturn, 1) := by decide +kernel
def cReader_readAttribute (S : CS) : Option (CS × Bool) := ((cTokens_advance S).bind fun q4 => (bd (gR q4 2 1) fun r9 => (if kd r9 = 7 then (bd (gR q4 2 1) fun r16 => (if kd r16 = 7 then ((cTokens_name q4).bind fun q23 => ((cPolicy_declares r16 q23 q4).bind fun q26 => ((cReader_declare (r9 + 3) q26 q4).bind fun q29 => (if q29.2 = true then ((cReader_expect 59 q29.1).bind fun q38 => (if q38.2 = true then some (q38.1, true) else some (q38.1, false))) else some (q29.1, false))))) else none)) else none)))
set_option maxHeartbeats 4000000 in
set_option maxRecDepth 100000 in
theorem M_cReader_readAttribute {l : Launch} {D : va_G} {cA : Nat → ClassId} {b : Nat} {ad : Nat → Nat}  {S : CS} {T : MS × (Nat → Int64)} {rr : (CS × Bool)}  (h : cReader_readAttribute  S = some rr) : Met l y_cReader_readAttribute (Cond.code y_cReader_readAttribute prog_7_method_9_code 1 (Option.some Jvm.ClassFile.FieldType.boolean) :: TW) { frames := 3, cells := 0, slots := 0, locals := 67 } (va_Pc [.ref (b + 2)] (Rp D cA b ad (S, T))) (Qr D cA b ad (rr.1, T) (some (.int (bI rr.2)))) 0 0 (Ab b) := by
  refine Ct_of (by decide) (Nat.le_of_ble_eq_true rfl) ?_
  intro p e R s m args below meth c ls Q H locs hR hQ hx hb hts hown hml hr hlk hC hX hS hl
  have hRf : R.frames = 3 := by rw [hR]
  have hRl : R.locals = 67 := by rw [hR]
  have hown : s.vm.findClass "TypeGuard$Reader" = some m.cls := hown
  have hl : lv_has ls 1 [(0, .ref (b + 2))] := hl
  rw [cReader_readAttribute] at h
  refine lv_aload_n hx hb d_cReader_readAttribute_0 rfl (lv_at hl 0 rfl) ?_
  refine c_get_2_0 hx hb hts hown hC hX (by rfl) (hts _ t_227) d_cReader_readAttribute_1 ?_
  obtain ⟨q4, hc4, h⟩ := Option.bind_eq_some_iff.mp h
  refine ck_V (As := []) (rest := []) (st1 := []) (M_cTokens_advance  hc4) t_591 t_592 t_593 t_594 t_3 hx hb hts hown hC hX hS (hrc_c3 hC hX (by rfl)) hml hl.1 ⟨by rw [hRf]; decide, by rw [hRl]; decide⟩ ⟨rfl, rfl⟩ (n := 0) (by decide +kernel) rfl rfl rfl (lv_room (Nat.le_of_ble_eq_true rfl)) d_cReader_readAttribute_4 (fun H locs hX hS => ?_)
  refine lv_aload_n hx hb d_cReader_readAttribute_7 rfl (lv_at hl 0 rfl) ?_
  refine lv_aload_n hx hb d_cReader_readAttribute_8 rfl (lv_at hl 0 rfl) ?_
  refine c_get_2_1 hx hb hts hown hC hX (by rfl) (hts _ t_228) d_cReader_readAttribute_9 ?_
  obtain ⟨r9, e9, h⟩ := bd_some h
  refine lt_R e9 ?_
  by_cases hkr9 : kd r9 = 7
  rotate_left; · rw [if_neg hkr9] at h; cases h
  rw [if_pos hkr9] at h
  refine c_get_7_1N (k := r9) hx hb hts hown hC hX hkr9 (va_Nw.use rfl (hC.2.1 _ t_189)) d_cReader_readAttribute_12 ?_
  refine lv_aload_n hx hb d_cReader_readAttribute_15 rfl (lv_at hl 0 rfl) ?_
  refine c_get_2_1 hx hb hts hown hC hX (by rfl) (hts _ t_228) d_cReader_readAttribute_16 ?_
  obtain ⟨r16, e16, h⟩ := bd_some h
  refine lt_R e16 ?_
  by_cases hkr16 : kd r16 = 7
  rotate_left; · rw [if_neg hkr16] at h; cases h
  rw [if_pos hkr16] at h
  refine lv_aload_n hx hb d_cReader_readAttribute_19 rfl (lv_at hl 0 rfl) ?_
  refine c_get_2_0 hx hb hts hown hC hX (by rfl) (hts _ t_227) d_cReader_readAttribute_20 ?_
  obtain ⟨q23, hc23, h⟩ := Option.bind_eq_some_iff.mp h
  refine ck_V (As := []) (rest := [.ref (b + r16), .ref (b + (r9 + 3)), .ref (b + 2)]) (st1 := [.long q23, .ref (b + r16), .ref (b + (r9 + 3)), .ref (b + 2)]) (M_cTokens_name  hc23) t_609 t_610 t_611 t_612 t_3 hx hb hts hown hC hX hS (hrc_c3 hC hX (by rfl)) hml hl.1 ⟨by rw [hRf]; decide, by rw [hRl]; decide⟩ ⟨rfl, rfl⟩ (n := 0) (by decide +kernel) rfl rfl rfl (lv_room (Nat.le_of_ble_eq_true rfl)) d_cReader_readAttribute_23 (fun H locs hX hS => ?_)
  obtain ⟨q26, hc26, h⟩ := Option.bind_eq_some_iff.mp h
  refine ck_V (As := [.long q23]) (rest := [.ref (b + (r9 + 3)), .ref (b + 2)]) (st1 := [.int (bI q26), .ref (b + (r9 + 3)), .ref (b + 2)]) (M_cPolicy_declares hkr16 hc26) t_679 t_680 t_681 t_682 t_4 hx hb hts hown hC hX hS (hrc_c7 hC hX hkr16) hml hl.1 ⟨by rw [hRf]; decide, by rw [hRl]; decide⟩ ⟨rfl, rfl⟩ (n := 1) (by decide +kernel) rfl rfl rfl (lv_room (Nat.le_of_ble_eq_true rfl)) d_cReader_readAttribute_26 (fun H locs hX hS => ?_)
  obtain ⟨q29, hc29, h⟩ := Option.bind_eq_some_iff.mp h
  refine ck_V (As := [.ref (b + (r9 + 3)), .int (bI q26)]) (rest := []) (st1 := [.int (bI q29.2)]) (M_cReader_declare (kx_7_3 hkr9) hc29) t_684 t_686 p_20 t_687 t_2 hx hb hts hown hC hX hS (hrc_c2 hC hX (by rfl)) hml hl.1 ⟨by rw [hRf]; decide, by rw [hRl]; decide⟩ ⟨rfl, rfl⟩ (n := 2) (by decide +kernel) rfl rfl rfl (lv_room (Nat.le_of_ble_eq_true rfl)) d_cReader_readAttribute_29 (fun H locs hX hS => ?_)
  refine lz_ifeq hx hb d_cReader_readAttribute_32 (tgt := 48) (by decide) (fun hc => ?_) (fun hc => ?_)
  · rw [if_neg hc] at h
    refine lv_iconst (v := 0) hx hb d_cReader_readAttribute_48 (by decide) ?_
    obtain rfl := Option.some.inj h
    exact rt_zf hQ hx hb hr hX hS hlk d_cReader_readAttribute_49
  · rw [if_pos hc] at h
    refine lv_aload_n hx hb d_cReader_readAttribute_35 rfl (lv_at hl 0 rfl) ?_
    refine lv_bipush (v := 59) hx hb d_cReader_readAttribute_36 (by decide) ?_
    obtain ⟨q38, hc38, h⟩ := Option.bind_eq_some_iff.mp h
    refine ck_V (As := [.int 59]) (rest := []) (st1 := [.int (bI q38.2)]) (M_cReader_expect  hc38) t_624 t_626 p_11 t_627 t_2 hx hb hts hown hC hX hS (hrc_c2 hC hX (by rfl)) hml hl.1 ⟨by rw [hRf]; decide, by rw [hRl]; decide⟩ ⟨rfl, rfl⟩ (n := 1) (by decide +kernel) rfl rfl rfl (lv_room (Nat.le_of_ble_eq_true rfl)) d_cReader_readAttribute_38 (fun H locs hX hS => ?_)
    refine lz_ifeq hx hb d_cReader_readAttribute_41 (tgt := 48) (by decide) (fun hc => ?_) (fun hc => ?_)
    · rw [if_neg hc] at h
      refine lv_iconst (v := 0) hx hb d_cReader_readAttribute_48 (by decide) ?_
      obtain rfl := Option.some.inj h
      exact rt_zf hQ hx hb hr hX hS hlk d_cReader_readAttribute_49
    · rw [if_pos hc] at h
      refine lv_iconst (v := 1) hx hb d_cReader_readAttribute_44 (by decide) ?_
      refine lv_goto hx hb d_cReader_readAttribute_45 (tgt := 49) (by decide) ?_
      obtain rfl := Option.some.inj h
      exact rt_zt hQ hx hb hr hX hS hlk d_cReader_readAttribute_49
abbrev y_cReader_readType : MethodName := ({ cls := "TypeGuard$Reader", name := "readType", desc := "()Z" } : Jvm.MethodName)
theorem d_cReader_readType_0 : decode prog_7_method_10_code 0 = .ok (.aload_n 0, 1) := by decide +kernel
theorem d_cReader_readType_1 : decode prog_7_method_10_code 1 = .ok (.getfield 12, 3) := by decide +kernel
theorem d_cReader_readType_4 : decode prog_7_method_10_code 4 = .ok (.invokevirtual 129, 3) := by decide +kernel
theorem d_cReader_readType_7 : decode prog_7_method_10_code 7 = .ok (.aload_n 0, 1) := by decide +kernel
theorem d_cReader_readType_8 : decode prog_7_method_10_code 8 = .ok (.aload_n 0, 1) := by decide +kernel
theorem d_cReader_readType_9 : decode prog_7_method_10_code 9 = .ok (.getfield 21, 3) := by decide +kernel
theorem d_cReader_readType_12 : decode prog_7_method_10_code 12 = .ok (.getfield 167, 3) := by decide +kernel
theorem d_cReader_readType_15 : decode prog_7_method_10_code 15 = .ok (.aload_n 0, 1) := by decide +kernel
theorem d_cReader_readType_16 : decode prog_7_method_10_code 16 = .ok (.getfield 21, 3) := by decide +kernel
theorem d_cReader_readType_19 : decode prog_7_method_10_code 19 = .ok (.aload_n 0, 1) := by decide +kernel
theorem d_cReader_readType_20 : decode prog_7_method_10_code 20 = .ok (.getfield 12, 3) := by decide +kernel
theorem d_cReader_readType_23 : decode prog_7_method_10_code 23 = .ok (.invokevirtual 136, 3) := by decide +kernel
theorem d_cReader_readType_26 : decode prog_7_method_10_code 26 = .ok (.invokevirtual 140, 3) := by decide +kernel
theorem d_cReader_readType_29 : decode prog_7_method_10_code 29 = .ok (.invokevirtual 144, 3) := by decide +kernel
theorem d_cReader_readType_32 : decode prog_7_method_10_code 32 = .ok (.ifCond .ne 5, 3) := by decide +kernel
theorem d_cReader_readType_35 : decode prog_7_method_10_code 35 = .ok (.iconst 0, 1) := by decide +kernel
theorem d_cReader_readType_36 : decode prog_7_method_10_code 36 = .ok (.ireturn, 1) := by decide +kernel
theorem d_cReader_readType_37 : decode prog_7_method_10_code 37 = .ok (.iconst 1, 1) := by decide +kernel
theorem d_cReader_readType_38 : decode prog_7_method_10_code 38 = .ok (.aload_n 0, 1) := by decide +kernel
theorem d_cReader_readType_39 : decode prog_7_method_10_code 39 = .ok (.getfield 21, 3) := by decide +kernel
theorem d_cReader_readType_42 : decode prog_7_method_10_code 42 = .ok (.getfield 167, 3) := by decide +kernel
theorem d_cReader_readType_45 : decode prog_7_method_10_code 45 = .ok (.getfield 155, 3) := by decide +kernel
theorem d_cReader_readType_48 : decode prog_7_method_10_code 48 = .ok (.iconst 1, 1) := by decide +kernel
theorem d_cReader_readType_49 : decode prog_7_method_10_code 49 = .ok (.isub, 1) := by decide +kernel
theorem d_cReader_readType_50 : decode prog_7_method_10_code 50 = .ok (.ishl, 1) := by decide +kernel
theorem d_cReader_readType_51 : decode prog_7_method_10_code 51 = .ok (.istore_n 1, 1) := by decide +kernel
theorem d_cReader_readType_52 : decode prog_7_method_10_code 52 = .ok (.iconst 0, 1) := by decide +kernel
theorem d_cReader_readType_53 : decode prog_7_method_10_code 53 = .ok (.istore_n 2, 1) := by decide +kernel
theorem d_cReader_readType_54 : decode prog_7_method_10_code 54 = .ok (.iload_n 2, 1) := by decide +kernel
theorem d_cReader_readType_55 : decode prog_7_method_10_code 55 = .ok (.sipush 480, 3) := by decide +kernel
theorem d_cReader_readType_58 : decode prog_7_method_10_code 58 = .ok (.if_icmp .ge 53, 3) := by decide +kernel
theorem d_cReader_readType_61 : decode prog_7_method_10_code 61 = .ok (.aload_n 0, 1) := by decide +kernel
theorem d_cReader_readType_62 : decode prog_7_method_10_code 62 = .ok (.getfield 12, 3) := by decide +kernel
theorem d_cReader_readType_65 : decode prog_7_method_10_code 65 = .ok (.bipush 44, 2) := by decide +kernel
theorem d_cReader_readType_67 : decode prog_7_method_10_code 67 = .ok (.invokevirtual 170, 3) := by decide +kernel
theorem d_cReader_readType_70 : decode prog_7_method_10_code 70 = .ok (.ifCond .eq 41, 3) := by decide +kernel
theorem d_cReader_readType_73 : decode prog_7_method_10_code 73 = .ok (.aload_n 0, 1) := by decide +kernel
theorem d_cReader_readType_74 : decode prog_7_method_10_code 74 = .ok (.aload_n 0, 1) := by decide +kernel
theorem d_cReader_readType_75 : decode prog_7_method_10_code 75 = .ok (.getfield 21, 3) := by decide +kernel
theorem d_cReader_readType_78 : decode prog_7_method_10_code 78 = .ok (.getfield 164, 3) := by decide +kernel
theorem d_cReader_readType_81 : decode prog_7_method_10_code 81 = .ok (.invokevirtual 173, 3) := by decide +kernel
theorem d_cReader_readType_84 : decode prog_7_method_10_code 84 = .ok (.istore_n 3, 1) := by decide +kernel
theorem d_cReader_readType_85 : decode prog_7_method_10_code 85 = .ok (.iload_n 3, 1) := by decide +kernel
theorem d_cReader_readType_86 : decode prog_7_method_10_code 86 = .ok (.iconst (-1), 1) := by decide +kernel
theorem d_cReader_readType_87 : decode prog_7_method_10_code 87 = .ok (.if_icmp .ne 5, 3) := by decide +kernel
theorem d_cReader_readType_90 : decode prog_7_method_10_code 90 = .ok (.iconst 0, 1) := by decide +kernel
theorem d_cReader_readType_91 : decode prog_7_method_10_code 91 = .ok (.ireturn, 1) := by decide +kernel
theorem d_cReader_readType_92 : decode prog_7_method_10_code 92 = .ok (.aload_n 0, 1) := by decide +kernel
theorem d_cReader_readType_93 : decode prog_7_method_10_code 93 = .ok (.getfield 21, 3) := by decide +kernel
theorem d_cReader_readType_96 : decode prog_7_method_10_code 96 = .ok (.getfield 177, 3) := by decide +kernel
theorem d_cReader_readType_99 : decode prog_7_method_10_code 99 = .ok (.iload_n 3, 1) := by decide +kernel
theorem d_cReader_readType_100 : decode prog_7_method_10_code 100 = .ok (.dup2, 1) := by decide +kernel
theorem d_cReader_readType_101 : decode prog_7_method_10_code 101 = .ok (.iaload, 1) := by decide +kernel
theorem d_cReader_readType_102 : decode prog_7_method_10_code 102 = .ok (.iload_n 1, 1) := by decide +kernel
theorem d_cReader_readType_103 : decode prog_7_method_10_code 103 = .ok (.ior, 1) := by decide +kernel
theorem d_cReader_readType_104 : decode prog_7_method_10_code 104 = .ok (.iastore, 1) := by decide +kernel
theorem d_cReader_readType_105 : decode prog_7_method_10_code 105 = .ok (.iinc 2 1, 3) := by decide +kernel
theorem d_cReader_readType_108 : decode prog_7_method_10_code 108 = .ok (.goto (-54), 3) := by decide +kernel
theorem d_cReader_readType_111 : decode prog_7_method_10_code 111 = .ok (.aload_n 0, 1) := by decide +kernel
theorem d_cReader_readType_112 : decode prog_7_method_10_code 112 = .ok (.bipush 59, 2) := by decide +kernel
theorem d_cReader_readType_114 : decode prog_7_method_10_code 114 = .ok (.invokevirtual 148, 3) := by decide +kernel
theorem d_cReader_readType_117 : decode prog_7_method_10_code 117 = .ok (.ireturn, 1) := by decide +kernel
def cReader_readType_J111 (S_111 : CS) : Option (CS × Bool) := ((cReader_expect 59 S_111).bind fun q114 => some (q114.1, q114.2))
def cReader_readType_L54 (v1_54 : Int32) : Nat → Int32 → CS → Option (CS × Bool)
  | 0, _, _ => none
  | n + 1, v2_54, S_54 => (if 480 ≤ v2_54 then cReader_readType_J111 S_54 else ((cTokens_skip 44 S_54).bind fun q67 => (if q67.2 = true then (bd (gR q67.1 2 1) fun r75 => (if kd r75 = 7 then ((cReader_numberHere (r75 + 3) q67.1).bind fun q81 => (if q81.2 = (-1) then some (q81.1, false) else (bd (gR q81.1 2 1) fun r93 => (if kd r93 = 7 then (if inbd q81.2 4 = true then (if inbd q81.2 4 = true then (bd (pI q81.1 (r93 + 10) (txN q81.2) ((gI q81.1 (r93 + 10) (txN q81.2)) ||| v1_54)) fun S104 => (bd ((v2_54 + 1)) fun a105 => (cReader_readType_L54 v1_54 n) a105 S104)) else none) else none) else none)))) else none)) else cReader_readType_J111 q67.1)))
def cReader_readType (S : CS) : Option (CS × Bool) := ((cTokens_advance S).bind fun q4 => (bd (gR q4 2 1) fun r9 => (if kd r9 = 7 then (bd (gR q4 2 1) fun r16 => (if kd r16 = 7 then ((cTokens_name q4).bind fun q23 => ((cPolicy_declares r16 q23 q4).bind fun q26 => ((cReader_declare (r9 + 1) q26 q4).bind fun q29 => (if q29.2 = true then (bd (gR q29.1 2 1) fun r39 => (if kd r39 = 7 then (bd ((1 <<< (((gI q29.1 (r39 + 1) 1) - 1) &&& 31))) fun a51 => cReader_readType_L54 a51 600 0 q29.1) else none)) else some (q29.1, false))))) else none)) else none)))
set_option maxHeartbeats 4000000 in
set_option maxRecDepth 100000 in
theorem M_cReader_readType {l : Launch} {D : va_G} {cA : Nat → ClassId} {b : Nat} {ad : Nat → Nat}  {S : CS} {T : MS × (Nat → Int64)} {rr : (CS × Bool)}  (h : cReader_readType  S = some rr) : Met l y_cReader_readType (Cond.code y_cReader_readType prog_7_method_10_code 4 (Option.some Jvm.ClassFile.FieldType.boolean) :: TW) { frames := 3, cells := 0, slots := 0, locals := 67 } (va_Pc [.ref (b + 2)] (Rp D cA b ad (S, T))) (Qr D cA b ad (rr.1, T) (some (.int (bI rr.2)))) 0 0 (Ab b) := by
  refine Ct_of (by decide) (Nat.le_of_ble_eq_true rfl) ?_
  intro p e R s m args below meth c ls Q H locs hR hQ hx hb hts hown hml hr hlk hC hX hS hl
  have hRf : R.frames = 3 := by rw [hR]
  have hRl : R.locals = 67 := by rw [hR]
  have hown : s.vm.findClass "TypeGuard$Reader" = some m.cls := hown
  have hl : lv_has ls 4 [(0, .ref (b + 2))] := hl
  rw [cReader_readType] at h
  refine lv_aload_n hx hb d_cReader_readType_0 rfl (lv_at hl 0 rfl) ?_
  refine c_get_2_0 hx hb hts hown hC hX (by rfl) (hts _ t_227) d_cReader_readType_1 ?_
  obtain ⟨q4, hc4, h⟩ := Option.bind_eq_some_iff.mp h
  refine ck_V (As := []) (rest := []) (st1 := []) (M_cTokens_advance  hc4) t_591 t_592 t_593 t_594 t_3 hx hb hts hown hC hX hS (hrc_c3 hC hX (by rfl)) hml hl.1 ⟨by rw [hRf]; decide, by rw [hRl]; decide⟩ ⟨rfl, rfl⟩ (n := 0) (by decide +kernel) rfl rfl rfl (lv_room (Nat.le_of_ble_eq_true rfl)) d_cReader_readType_4 (fun H locs hX hS => ?_)
  refine lv_aload_n hx hb d_cReader_readType_7 rfl (lv_at hl 0 rfl) ?_
  refine lv_aload_n hx hb d_cReader_readType_8 rfl (lv_at hl 0 rfl) ?_
  refine c_get_2_1 hx hb hts hown hC hX (by rfl) (hts _ t_228) d_cReader_readType_9 ?_
  obtain ⟨r9, e9, h⟩ := bd_some h
  refine lt_R e9 ?_
  by_cases hkr9 : kd r9 = 7
  rotate_left; · rw [if_neg hkr9] at h; cases h
  rw [if_pos hkr9] at h
  refine c_get_7_0N (k := r9) hx hb hts hown hC hX hkr9 (va_Nw.use rfl (hC.2.1 _ t_187)) d_cReader_readType_12 ?_
  refine lv_aload_n hx hb d_cReader_readType_15 rfl (lv_at hl 0 rfl) ?_
  refine c_get_2_1 hx hb hts hown hC hX (by rfl) (hts _ t_228) d_cReader_readType_16 ?_
  obtain ⟨r16, e16, h⟩ := bd_some h
  refine lt_R e16 ?_
  by_cases hkr16 : kd r16 = 7
  rotate_left; · rw [if_neg hkr16] at h; cases h
  rw [if_pos hkr16] at h
  refine lv_aload_n hx hb d_cReader_readType_19 rfl (lv_at hl 0 rfl) ?_
  refine c_get_2_0 hx hb hts hown hC hX (by rfl) (hts _ t_227) d_cReader_readType_20 ?_
  obtain ⟨q23, hc23, h⟩ := Option.bind_eq_some_iff.mp h
  refine ck_V (As := []) (rest := [.ref (b + r16), .ref (b + (r9 + 1)), .ref (b + 2)]) (st1 := [.long q23, .ref (b + r16), .ref (b + (r9 + 1)), .ref (b + 2)]) (M_cTokens_name  hc23) t_609 t_610 t_611 t_612 t_3 hx hb hts hown hC hX hS (hrc_c3 hC hX (by rfl)) hml hl.1 ⟨by rw [hRf]; decide, by rw [hRl]; decide⟩ ⟨rfl, rfl⟩ (n := 0) (by decide +kernel) rfl rfl rfl (lv_room (Nat.le_of_ble_eq_true rfl)) d_cReader_readType_23 (fun H locs hX hS => ?_)
  obtain ⟨q26, hc26, h⟩ := Option.bind_eq_some_iff.mp h
  refine ck_V (As := [.long q23]) (rest := [.ref (b + (r9 + 1)), .ref (b + 2)]) (st1 := [.int (bI q26), .ref (b + (r9 + 1)), .ref (b + 2)]) (M_cPolicy_declares hkr16 hc26) t_679 t_680 t_681 t_682 t_4 hx hb hts hown hC hX hS (hrc_c7 hC hX hkr16) hml hl.1 ⟨by rw [hRf]; decide, by rw [hRl]; decide⟩ ⟨rfl, rfl⟩ (n := 1) (by decide +kernel) rfl rfl rfl (lv_room (Nat.le_of_ble_eq_true rfl)) d_cReader_readType_26 (fun H locs hX hS => ?_)
  obtain ⟨q29, hc29, h⟩ := Option.bind_eq_some_iff.mp h
  refine ck_V (As := [.ref (b + (r9 + 1)), .int (bI q26)]) (rest := []) (st1 := [.int (bI q29.2)]) (M_cReader_declare (kx_7_1 hkr9) hc29) t_684 t_686 p_20 t_687 t_2 hx hb hts hown hC hX hS (hrc_c2 hC hX (by rfl)) hml hl.1 ⟨by rw [hRf]; decide, by rw [hRl]; decide⟩ ⟨rfl, rfl⟩ (n := 2) (by decide +kernel) rfl rfl rfl (lv_room (Nat.le_of_ble_eq_true rfl)) d_cReader_readType_29 (fun H locs hX hS => ?_)
  refine lz_ifne hx hb d_cReader_readType_32 (tgt := 37) (by decide) (fun hc => ?_) (fun hc => ?_)
  · rw [if_pos hc] at h
    refine lv_iconst (v := 1) hx hb d_cReader_readType_37 (by decide) ?_
    refine lv_aload_n hx hb d_cReader_readType_38 rfl (lv_at hl 0 rfl) ?_
    refine c_get_2_1 hx hb hts hown hC hX (by rfl) (hts _ t_228) d_cReader_readType_39 ?_
    obtain ⟨r39, e39, h⟩ := bd_some h
    refine lt_R e39 ?_
    by_cases hkr39 : kd r39 = 7
    rotate_left; · rw [if_neg hkr39] at h; cases h
    rw [if_pos hkr39] at h
    refine c_get_7_0N (k := r39) hx hb hts hown hC hX hkr39 (va_Nw.use rfl (hC.2.1 _ t_187)) d_cReader_readType_42 ?_
    refine c_get_8_1N (k := (r39 + 1)) hx hb hts hown hC hX (kx_7_1 hkr39) (va_Nw.use rfl (hC.2.1 _ t_82)) d_cReader_readType_45 ?_
    refine lv_iconst (v := 1) hx hb d_cReader_readType_48 (by decide) ?_
    refine lv_isub hx hb d_cReader_readType_49 ?_
    refine lv_ishl hx hb d_cReader_readType_50 ?_
    obtain ⟨a51, e51, h⟩ := bd_some h
    refine lt_I e51 ?_
    refine lv_istore_n (lv' := [(1, .int a51), (0, .ref (b + 2))]) hx hb d_cReader_readType_51 rfl hl (by decide) rfl (fun ls hl => ?_)
    refine lv_iconst (v := 0) hx hb d_cReader_readType_52 (by decide) ?_
    refine lv_istore_n (lv' := [(2, .int 0), (1, .int a51), (0, .ref (b + 2))]) hx hb d_cReader_readType_53 rfl hl (by decide) rfl (fun ls hl => ?_)
    have L54 : ∀ (n54 : Nat) (v2_54 : Int32) (S_54 : CS) (H : Heap) (locs : List Loc) (ls : Array Slot), hp D cA b ad (S_54, T) H → va_S (Ab b) s.heap H locs → lv_has ls 4 [(0, .ref (b + 2)), (1, .int a51), (2, .int v2_54)] → cReader_readType_L54 a51 n54 v2_54 S_54 = some rr → W p l e R s m args below meth c H locs 0 0 Q (F0 m 54 ls []) := by
      intro n54; induction n54 with
      | zero => intro v2_54 S_54 H locs ls  hX hS hl h; rw [cReader_readType_L54] at h; cases h
      | succ n54 ih54 =>
        intro v2_54 S_54 H locs ls  hX hS hl h
        rw [cReader_readType_L54] at h
        refine lv_iload_n hx hb d_cReader_readType_54 rfl (lv_at hl 2 rfl) ?_
        refine lv_sipush (v := 480) hx hb d_cReader_readType_55 (by decide) ?_
        have J111 : ∀ (S_111 : CS) (H : Heap) (locs : List Loc) (ls : Array Slot), hp D cA b ad (S_111, T) H → va_S (Ab b) s.heap H locs → lv_has ls 4 [(0, .ref (b + 2))] → cReader_readType_J111 S_111 = some rr → W p l e R s m args below meth c H locs 0 0 Q (F0 m 111 ls []) := by
          intro S_111 H locs ls  hX hS hl h
          rw [cReader_readType_J111] at h
          refine lv_aload_n hx hb d_cReader_readType_111 rfl (lv_at hl 0 rfl) ?_
          refine lv_bipush (v := 59) hx hb d_cReader_readType_112 (by decide) ?_
          obtain ⟨q114, hc114, h⟩ := Option.bind_eq_some_iff.mp h
          refine ck_V (As := [.int 59]) (rest := []) (st1 := [.int (bI q114.2)]) (M_cReader_expect  hc114) t_624 t_626 p_11 t_627 t_2 hx hb hts hown hC hX hS (hrc_c2 hC hX (by rfl)) hml hl.1 ⟨by rw [hRf]; decide, by rw [hRl]; decide⟩ ⟨rfl, rfl⟩ (n := 1) (by decide +kernel) rfl rfl rfl (lv_room (Nat.le_of_ble_eq_true rfl)) d_cReader_readType_114 (fun H locs hX hS => ?_)
          obtain rfl := Option.some.inj h
          exact rt_z hQ hx hb hr hX hS hlk d_cReader_readType_117
        refine lv_icmp_ge hx hb d_cReader_readType_58 (tgt := 111) (by decide) (fun hc => ?_) (fun hc => ?_)
        · rw [if_pos hc] at h
          exact J111 S_54 H locs ls  hX hS (lv_sub hl [0] rfl) h
        · rw [if_neg hc] at h
          refine lv_aload_n hx hb d_cReader_readType_61 rfl (lv_at hl 0 rfl) ?_
          refine c_get_2_0 hx hb hts hown hC hX (by rfl) (hts _ t_227) d_cReader_readType_62 ?_
          refine lv_bipush (v := 44) hx hb d_cReader_readType_65 (by decide) ?_
          obtain ⟨q67, hc67, h⟩ := Option.bind_eq_some_iff.mp h
          refine ck_V (As := [.int 44]) (rest := []) (st1 := [.int (bI q67.2)]) (M_cTokens_skip  hc67) t_599 t_600 t_601 t_602 t_3 hx hb hts hown hC hX hS (hrc_c3 hC hX (by rfl)) hml hl.1 ⟨by rw [hRf]; decide, by rw [hRl]; decide⟩ ⟨rfl, rfl⟩ (n := 1) (by decide +kernel) rfl rfl rfl (lv_room (Nat.le_of_ble_eq_true rfl)) d_cReader_readType_67 (fun H locs hX hS => ?_)
          refine lz_ifeq hx hb d_cReader_readType_70 (tgt := 111) (by decide) (fun hc => ?_) (fun hc => ?_)
          · rw [if_neg hc] at h
            exact J111 q67.1 H locs ls  hX hS (lv_sub hl [0] rfl) h
          · rw [if_pos hc] at h
            refine lv_aload_n hx hb d_cReader_readType_73 rfl (lv_at hl 0 rfl) ?_
            refine lv_aload_n hx hb d_cReader_readType_74 rfl (lv_at hl 0 rfl) ?_
            refine c_get_2_1 hx hb hts hown hC hX (by rfl) (hts _ t_228) d_cReader_readType_75 ?_
            obtain ⟨r75, e75, h⟩ := bd_some h
            refine lt_R e75 ?_
            by_cases hkr75 : kd r75 = 7
            rotate_left; · rw [if_neg hkr75] at h; cases h
            rw [if_pos hkr75] at h
            refine c_get_7_1N (k := r75) hx hb hts hown hC hX hkr75 (va_Nw.use rfl (hC.2.1 _ t_189)) d_cReader_readType_78 ?_
            obtain ⟨q81, hc81, h⟩ := Option.bind_eq_some_iff.mp h
            refine ck_V (As := [.ref (b + (r75 + 3))]) (rest := []) (st1 := [.int q81.2]) (M_cReader_numberHere (kx_7_3 hkr75) hc81) t_634 t_636 p_13 t_637 t_2 hx hb hts hown hC hX hS (hrc_c2 hC hX (by rfl)) hml hl.1 ⟨by rw [hRf]; decide, by rw [hRl]; decide⟩ ⟨rfl, rfl⟩ (n := 1) (by decide +kernel) rfl rfl rfl (lv_room (Nat.le_of_ble_eq_true rfl)) d_cReader_readType_81 (fun H locs hX hS => ?_)
            refine lv_istore_n (lv' := [(3, .int q81.2), (0, .ref (b + 2)), (1, .int a51), (2, .int v2_54)]) hx hb d_cReader_readType_84 rfl hl (by decide) rfl (fun ls hl => ?_)
            refine lv_iload_n hx hb d_cReader_readType_85 rfl (lv_at hl 0 rfl) ?_
            refine lv_iconst (v := (-1)) hx hb d_cReader_readType_86 (by decide) ?_
            refine lv_icmp_ne hx hb d_cReader_readType_87 (tgt := 92) (by decide) (fun hc => ?_) (fun hc => ?_)
            · rw [if_neg hc] at h
              refine lv_aload_n hx hb d_cReader_readType_92 rfl (lv_at hl 1 rfl) ?_
              refine c_get_2_1 hx hb hts hown hC hX (by rfl) (hts _ t_228) d_cReader_readType_93 ?_
              obtain ⟨r93, e93, h⟩ := bd_some h
              refine lt_R e93 ?_
              by_cases hkr93 : kd r93 = 7
              rotate_left; · rw [if_neg hkr93] at h; cases h
              rw [if_pos hkr93] at h
              refine c_get_7_5N (k := r93) hx hb hts hown hC hX hkr93 (va_Nw.use rfl (hC.2.1 _ t_199)) d_cReader_readType_96 ?_
              refine lv_iload_n hx hb d_cReader_readType_99 rfl (lv_at hl 0 rfl) ?_
              refine lv_dup2_11 hx hb d_cReader_readType_100 rfl rfl ?_
              by_cases hg101 : inbd q81.2 4 = true
              rotate_left; · rw [if_neg hg101] at h; cases h
              rw [if_pos hg101] at h
              refine c_ald_11 (k := (r93 + 10)) hx hb hC hX (kx_7_10 hkr93) hg101 d_cReader_readType_101 ?_
              refine lv_iload_n hx hb d_cReader_readType_102 rfl (lv_at hl 2 rfl) ?_
              refine lv_ior hx hb d_cReader_readType_103 ?_
              by_cases hg104 : inbd q81.2 4 = true
              rotate_left; · rw [if_neg hg104] at h; cases h
              rw [if_pos hg104] at h
              refine c_ast_11 (k := (r93 + 10)) (v := ((gI q81.1 (r93 + 10) (txN q81.2)) ||| a51)) hx hb hC hX hS (kx_7_10 hkr93) hg104 d_cReader_readType_104 (fun H locs hX hS => ?_)
              obtain ⟨S104, e104, h⟩ := bd_some h
              rw [← e104] at hX
              obtain ⟨a105, e105, h⟩ := bd_some h
              refine lv_iinc (v := a105) (lv' := [(2, .int a105), (3, .int q81.2), (0, .ref (b + 2)), (1, .int a51)]) hx hb d_cReader_readType_105 hl (k := 3) rfl e105.symm (by decide) rfl (fun ls hl => ?_)
              refine lv_goto hx hb d_cReader_readType_108 (tgt := 54) (by decide) ?_
              exact ih54 a105 S104 H locs ls  hX hS (lv_sub hl [2, 3, 0] rfl) h
            · rw [if_pos hc] at h
              refine lv_iconst (v := 0) hx hb d_cReader_readType_90 (by decide) ?_
              obtain rfl := Option.some.inj h
              exact rt_zf hQ hx hb hr hX hS hlk d_cReader_readType_91
    exact L54 600 0 q29.1 H locs ls  hX hS (lv_sub hl [2, 1, 0] rfl) h
  · rw [if_neg hc] at h
    refine lv_iconst (v := 0) hx hb d_cReader_readType_35 (by decide) ?_
    obtain rfl := Option.some.inj h
    exact rt_zf hQ hx hb hr hX hS hlk d_cReader_readType_36
