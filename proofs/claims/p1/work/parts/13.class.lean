abbrev y_cReader_readBool : MethodName := ({ cls := "TypeGuard$Reader", name := "readBool", desc := "()Z" } : Jvm.MethodName)
theorem d_cReader_readBool_0 : decode prog_7_method_11_code 0 = .ok (.aload_n 0, 1) := by decide +kernel
theorem d_cReader_readBool_1 : decode prog_7_method_11_code 1 = .ok (.getfield 12, 3) := by decide +kernel
theorem d_cReader_readBool_4 : decode prog_7_method_11_code 4 = .ok (.invokevirtual 129, 3) := by decide +kernel
theorem d_cReader_readBool_7 : decode prog_7_method_11_code 7 = .ok (.aload_n 0, 1) := by decide +kernel
theorem d_cReader_readBool_8 : decode prog_7_method_11_code 8 = .ok (.aload_n 0, 1) := by decide +kernel
theorem d_cReader_readBool_9 : decode prog_7_method_11_code 9 = .ok (.getfield 21, 3) := by decide +kernel
theorem d_cReader_readBool_12 : decode prog_7_method_11_code 12 = .ok (.getfield 180, 3) := by decide +kernel
theorem d_cReader_readBool_15 : decode prog_7_method_11_code 15 = .ok (.aload_n 0, 1) := by decide +kernel
theorem d_cReader_readBool_16 : decode prog_7_method_11_code 16 = .ok (.getfield 21, 3) := by decide +kernel
theorem d_cReader_readBool_19 : decode prog_7_method_11_code 19 = .ok (.aload_n 0, 1) := by decide +kernel
theorem d_cReader_readBool_20 : decode prog_7_method_11_code 20 = .ok (.getfield 12, 3) := by decide +kernel
theorem d_cReader_readBool_23 : decode prog_7_method_11_code 23 = .ok (.invokevirtual 136, 3) := by decide +kernel
theorem d_cReader_readBool_26 : decode prog_7_method_11_code 26 = .ok (.invokevirtual 140, 3) := by decide +kernel
theorem d_cReader_readBool_29 : decode prog_7_method_11_code 29 = .ok (.invokevirtual 144, 3) := by decide +kernel
theorem d_cReader_readBool_32 : decode prog_7_method_11_code 32 = .ok (.ifCond .ne 5, 3) := by decide +kernel
theorem d_cReader_readBool_35 : decode prog_7_method_11_code 35 = .ok (.iconst 0, 1) := by decide +kernel
theorem d_cReader_readBool_36 : decode prog_7_method_11_code 36 = .ok (.ireturn, 1) := by decide +kernel
theorem d_cReader_readBool_37 : decode prog_7_method_11_code 37 = .ok (.aload_n 0, 1) := by decide +kernel
theorem d_cReader_readBool_38 : decode prog_7_method_11_code 38 = .ok (.getfield 12, 3) := by decide +kernel
theorem d_cReader_readBool_41 : decode prog_7_method_11_code 41 = .ok (.getstatic 183, 3) := by decide +kernel
theorem d_cReader_readBool_44 : decode prog_7_method_11_code 44 = .ok (.invokevirtual 186, 3) := by decide +kernel
theorem d_cReader_readBool_47 : decode prog_7_method_11_code 47 = .ok (.istore_n 1, 1) := by decide +kernel
theorem d_cReader_readBool_48 : decode prog_7_method_11_code 48 = .ok (.iload_n 1, 1) := by decide +kernel
theorem d_cReader_readBool_49 : decode prog_7_method_11_code 49 = .ok (.ifCond .ne 22, 3) := by decide +kernel
theorem d_cReader_readBool_52 : decode prog_7_method_11_code 52 = .ok (.aload_n 0, 1) := by decide +kernel
theorem d_cReader_readBool_53 : decode prog_7_method_11_code 53 = .ok (.getfield 12, 3) := by decide +kernel
theorem d_cReader_readBool_56 : decode prog_7_method_11_code 56 = .ok (.getstatic 189, 3) := by decide +kernel
theorem d_cReader_readBool_59 : decode prog_7_method_11_code 59 = .ok (.invokevirtual 186, 3) := by decide +kernel
theorem d_cReader_readBool_62 : decode prog_7_method_11_code 62 = .ok (.ifCond .ne 9, 3) := by decide +kernel
theorem d_cReader_readBool_65 : decode prog_7_method_11_code 65 = .ok (.aload_n 0, 1) := by decide +kernel
theorem d_cReader_readBool_66 : decode prog_7_method_11_code 66 = .ok (.iconst 1, 1) := by decide +kernel
theorem d_cReader_readBool_67 : decode prog_7_method_11_code 67 = .ok (.invokevirtual 125, 3) := by decide +kernel
theorem d_cReader_readBool_70 : decode prog_7_method_11_code 70 = .ok (.ireturn, 1) := by decide +kernel
theorem d_cReader_readBool_71 : decode prog_7_method_11_code 71 = .ok (.aload_n 0, 1) := by decide +kernel
theorem d_cReader_readBool_72 : decode prog_7_method_11_code 72 = .ok (.getfield 21, 3) := by decide +kernel
theorem d_cReader_readBool_75 : decode prog_7_method_11_code 75 = .ok (.getfield 192, 3) := by decide +kernel
theorem d_cReader_readBool_78 : decode prog_7_method_11_code 78 = .ok (.aload_n 0, 1) := by decide +kernel
theorem d_cReader_readBool_79 : decode prog_7_method_11_code 79 = .ok (.getfield 21, 3) := by decide +kernel
theorem d_cReader_readBool_82 : decode prog_7_method_11_code 82 = .ok (.getfield 180, 3) := by decide +kernel
theorem d_cReader_readBool_85 : decode prog_7_method_11_code 85 = .ok (.getfield 155, 3) := by decide +kernel
theorem d_cReader_readBool_88 : decode prog_7_method_11_code 88 = .ok (.iconst 1, 1) := by decide +kernel
theorem d_cReader_readBool_89 : decode prog_7_method_11_code 89 = .ok (.isub, 1) := by decide +kernel
theorem d_cReader_readBool_90 : decode prog_7_method_11_code 90 = .ok (.iload_n 1, 1) := by decide +kernel
theorem d_cReader_readBool_91 : decode prog_7_method_11_code 91 = .ok (.bastore, 1) := by decide +kernel
theorem d_cReader_readBool_92 : decode prog_7_method_11_code 92 = .ok (.aload_n 0, 1) := by decide +kernel
theorem d_cReader_readBool_93 : decode prog_7_method_11_code 93 = .ok (.bipush 59, 2) := by decide +kernel
theorem d_cReader_readBool_95 : decode prog_7_method_11_code 95 = .ok (.invokevirtual 148, 3) := by decide +kernel
theorem d_cReader_readBool_98 : decode prog_7_method_11_code 98 = .ok (.ireturn, 1) := by decide +kernel
def cReader_readBool_J71 (v1_71 : Bool) (S_71 : CS) : Option (CS × Bool) := (bd (gR S_71 2 1) fun r72 => (if kd r72 = 7 then (bd (gR S_71 2 1) fun r79 => (if kd r79 = 7 then (if inbd ((gI S_71 (r79 + 7) 1) - 1) 3 = true then (bd (pB S_71 (r72 + 11) (txN ((gI S_71 (r79 + 7) 1) - 1)) v1_71) fun S91 => ((cReader_expect 59 S91).bind fun q95 => some (q95.1, q95.2))) else none) else none)) else none))
def cReader_readBool (S : CS) : Option (CS × Bool) := ((cTokens_advance S).bind fun q4 => (bd (gR q4 2 1) fun r9 => (if kd r9 = 7 then (bd (gR q4 2 1) fun r16 => (if kd r16 = 7 then ((cTokens_name q4).bind fun q23 => ((cPolicy_declares r16 q23 q4).bind fun q26 => ((cReader_declare (r9 + 7) q26 q4).bind fun q29 => (if q29.2 = true then ((cTokens_skipWord 12 q29.1).bind fun q44 => (if q44.2 = true then cReader_readBool_J71 q44.2 q44.1 else ((cTokens_skipWord 13 q44.1).bind fun q59 => (if q59.2 = true then cReader_readBool_J71 q44.2 q59.1 else ((cReader_refuse 1 q59.1).bind fun q67 => some (q67.1, q67.2)))))) else some (q29.1, false))))) else none)) else none)))
set_option maxHeartbeats 4000000 in
set_option maxRecDepth 100000 in
theorem M_cReader_readBool {l : Launch} {D : va_G} {cA : Nat → ClassId} {b : Nat} {ad : Nat → Nat}  {S : CS} {T : MS × (Nat → Int64)} {rr : (CS × Bool)}  (h : cReader_readBool  S = some rr) : Met l y_cReader_readBool (Cond.code y_cReader_readBool prog_7_method_11_code 2 (Option.some Jvm.ClassFile.FieldType.boolean) :: TW) { frames := 3, cells := 0, slots := 0, locals := 67 } (va_Pc [.ref (b + 2)] (Rp D cA b ad (S, T))) (Qr D cA b ad (rr.1, T) (some (.int (bI rr.2)))) 0 0 (Ab b) := by
  refine Ct_of (by decide) (Nat.le_of_ble_eq_true rfl) ?_
  intro p e R s m args below meth c ls Q H locs hR hQ hx hb hts hown hml hr hlk hC hX hS hl
  have hRf : R.frames = 3 := by rw [hR]
  have hRl : R.locals = 67 := by rw [hR]
  have hown : s.vm.findClass "TypeGuard$Reader" = some m.cls := hown
  have hl : lv_has ls 2 [(0, .ref (b + 2))] := hl
  rw [cReader_readBool] at h
  refine lv_aload_n hx hb d_cReader_readBool_0 rfl (lv_at hl 0 rfl) ?_
  refine c_get_2_0 hx hb hts hown hC hX (by rfl) (hts _ t_227) d_cReader_readBool_1 ?_
  obtain ⟨q4, hc4, h⟩ := Option.bind_eq_some_iff.mp h
  refine ck_V (As := []) (rest := []) (st1 := []) (M_cTokens_advance  hc4) t_591 t_592 t_593 t_594 t_3 hx hb hts hown hC hX hS (hrc_c3 hC hX (by rfl)) hml hl.1 ⟨by rw [hRf]; decide, by rw [hRl]; decide⟩ ⟨rfl, rfl⟩ (n := 0) (by decide +kernel) rfl rfl rfl (lv_room (Nat.le_of_ble_eq_true rfl)) d_cReader_readBool_4 (fun H locs hX hS => ?_)
  refine lv_aload_n hx hb d_cReader_readBool_7 rfl (lv_at hl 0 rfl) ?_
  refine lv_aload_n hx hb d_cReader_readBool_8 rfl (lv_at hl 0 rfl) ?_
  refine c_get_2_1 hx hb hts hown hC hX (by rfl) (hts _ t_228) d_cReader_readBool_9 ?_
  obtain ⟨r9, e9, h⟩ := bd_some h
  refine lt_R e9 ?_
  by_cases hkr9 : kd r9 = 7
  rotate_left; · rw [if_neg hkr9] at h; cases h
  rw [if_pos hkr9] at h
  refine c_get_7_3N (k := r9) hx hb hts hown hC hX hkr9 (va_Nw.use rfl (hC.2.1 _ t_195)) d_cReader_readBool_12 ?_
  refine lv_aload_n hx hb d_cReader_readBool_15 rfl (lv_at hl 0 rfl) ?_
  refine c_get_2_1 hx hb hts hown hC hX (by rfl) (hts _ t_228) d_cReader_readBool_16 ?_
  obtain ⟨r16, e16, h⟩ := bd_some h
  refine lt_R e16 ?_
  by_cases hkr16 : kd r16 = 7
  rotate_left; · rw [if_neg hkr16] at h; cases h
  rw [if_pos hkr16] at h
  refine lv_aload_n hx hb d_cReader_readBool_19 rfl (lv_at hl 0 rfl) ?_
  refine c_get_2_0 hx hb hts hown hC hX (by rfl) (hts _ t_227) d_cReader_readBool_20 ?_
  obtain ⟨q23, hc23, h⟩ := Option.bind_eq_some_iff.mp h
  refine ck_V (As := []) (rest := [.ref (b + r16), .ref (b + (r9 + 7)), .ref (b + 2)]) (st1 := [.long q23, .ref (b + r16), .ref (b + (r9 + 7)), .ref (b + 2)]) (M_cTokens_name  hc23) t_609 t_610 t_611 t_612 t_3 hx hb hts hown hC hX hS (hrc_c3 hC hX (by rfl)) hml hl.1 ⟨by rw [hRf]; decide, by rw [hRl]; decide⟩ ⟨rfl, rfl⟩ (n := 0) (by decide +kernel) rfl rfl rfl (lv_room (Nat.le_of_ble_eq_true rfl)) d_cReader_readBool_23 (fun H locs hX hS => ?_)
  obtain ⟨q26, hc26, h⟩ := Option.bind_eq_some_iff.mp h
  refine ck_V (As := [.long q23]) (rest := [.ref (b + (r9 + 7)), .ref (b + 2)]) (st1 := [.int (bI q26), .ref (b + (r9 + 7)), .ref (b + 2)]) (M_cPolicy_declares hkr16 hc26) t_679 t_680 t_681 t_682 t_4 hx hb hts hown hC hX hS (hrc_c7 hC hX hkr16) hml hl.1 ⟨by rw [hRf]; decide, by rw [hRl]; decide⟩ ⟨rfl, rfl⟩ (n := 1) (by decide +kernel) rfl rfl rfl (lv_room (Nat.le_of_ble_eq_true rfl)) d_cReader_readBool_26 (fun H locs hX hS => ?_)
  obtain ⟨q29, hc29, h⟩ := Option.bind_eq_some_iff.mp h
  refine ck_V (As := [.ref (b + (r9 + 7)), .int (bI q26)]) (rest := []) (st1 := [.int (bI q29.2)]) (M_cReader_declare (kx_7_7 hkr9) hc29) t_684 t_686 p_20 t_687 t_2 hx hb hts hown hC hX hS (hrc_c2 hC hX (by rfl)) hml hl.1 ⟨by rw [hRf]; decide, by rw [hRl]; decide⟩ ⟨rfl, rfl⟩ (n := 2) (by decide +kernel) rfl rfl rfl (lv_room (Nat.le_of_ble_eq_true rfl)) d_cReader_readBool_29 (fun H locs hX hS => ?_)
  refine lz_ifne hx hb d_cReader_readBool_32 (tgt := 37) (by decide) (fun hc => ?_) (fun hc => ?_)
  · rw [if_pos hc] at h
    refine lv_aload_n hx hb d_cReader_readBool_37 rfl (lv_at hl 0 rfl) ?_
    refine c_get_2_0 hx hb hts hown hC hX (by rfl) (hts _ t_227) d_cReader_readBool_38 ?_
    refine st_W (i := 12) hx hb hC hS hown (hts _ t_705) d_cReader_readBool_41 (by decide) ?_
    obtain ⟨q44, hc44, h⟩ := Option.bind_eq_some_iff.mp h
    refine ck_V (As := [.ref (ad 12)]) (rest := []) (st1 := [.int (bI q44.2)]) (M_cTokens_skipWord (by decide) hc44) t_620 t_621 t_622 t_623 t_3 hx hb hts hown hC hX hS (hrc_c3 hC hX (by rfl)) hml hl.1 ⟨by rw [hRf]; decide, by rw [hRl]; decide⟩ ⟨rfl, rfl⟩ (n := 1) (by decide +kernel) rfl rfl rfl (lv_room (Nat.le_of_ble_eq_true rfl)) d_cReader_readBool_44 (fun H locs hX hS => ?_)
    refine lv_istore_n (lv' := [(1, .int (bI q44.2)), (0, .ref (b + 2))]) hx hb d_cReader_readBool_47 rfl hl (by decide) rfl (fun ls hl => ?_)
    refine lv_iload_n hx hb d_cReader_readBool_48 rfl (lv_at hl 0 rfl) ?_
    have J71 : ∀ (S_71 : CS) (H : Heap) (locs : List Loc) (ls : Array Slot), hp D cA b ad (S_71, T) H → va_S (Ab b) s.heap H locs → lv_has ls 2 [(0, .ref (b + 2)), (1, .int (bI q44.2))] → cReader_readBool_J71 q44.2 S_71 = some rr → W p l e R s m args below meth c H locs 0 0 Q (F0 m 71 ls []) := by
      intro S_71 H locs ls  hX hS hl h
      rw [cReader_readBool_J71] at h
      refine lv_aload_n hx hb d_cReader_readBool_71 rfl (lv_at hl 0 rfl) ?_
      refine c_get_2_1 hx hb hts hown hC hX (by rfl) (hts _ t_228) d_cReader_readBool_72 ?_
      obtain ⟨r72, e72, h⟩ := bd_some h
      refine lt_R e72 ?_
      by_cases hkr72 : kd r72 = 7
      rotate_left; · rw [if_neg hkr72] at h; cases h
      rw [if_pos hkr72] at h
      refine c_get_7_6N (k := r72) hx hb hts hown hC hX hkr72 (va_Nw.use rfl (hC.2.1 _ t_202)) d_cReader_readBool_75 ?_
      refine lv_aload_n hx hb d_cReader_readBool_78 rfl (lv_at hl 0 rfl) ?_
      refine c_get_2_1 hx hb hts hown hC hX (by rfl) (hts _ t_228) d_cReader_readBool_79 ?_
      obtain ⟨r79, e79, h⟩ := bd_some h
      refine lt_R e79 ?_
      by_cases hkr79 : kd r79 = 7
      rotate_left; · rw [if_neg hkr79] at h; cases h
      rw [if_pos hkr79] at h
      refine c_get_7_3N (k := r79) hx hb hts hown hC hX hkr79 (va_Nw.use rfl (hC.2.1 _ t_195)) d_cReader_readBool_82 ?_
      refine c_get_8_1N (k := (r79 + 7)) hx hb hts hown hC hX (kx_7_7 hkr79) (va_Nw.use rfl (hC.2.1 _ t_82)) d_cReader_readBool_85 ?_
      refine lv_iconst (v := 1) hx hb d_cReader_readBool_88 (by decide) ?_
      refine lv_isub hx hb d_cReader_readBool_89 ?_
      refine lv_iload_n hx hb d_cReader_readBool_90 rfl (lv_at hl 1 rfl) ?_
      by_cases hg91 : inbd ((gI S_71 (r79 + 7) 1) - 1) 3 = true
      rotate_left; · rw [if_neg hg91] at h; cases h
      rw [if_pos hg91] at h
      refine c_ast_12 (k := (r72 + 11)) (v := q44.2) hx hb hC hX hS (kx_7_11 hkr72) hg91 d_cReader_readBool_91 (fun H locs hX hS => ?_)
      obtain ⟨S91, e91, h⟩ := bd_some h
      rw [← e91] at hX
      refine lv_aload_n hx hb d_cReader_readBool_92 rfl (lv_at hl 0 rfl) ?_
      refine lv_bipush (v := 59) hx hb d_cReader_readBool_93 (by decide) ?_
      obtain ⟨q95, hc95, h⟩ := Option.bind_eq_some_iff.mp h
      refine ck_V (As := [.int 59]) (rest := []) (st1 := [.int (bI q95.2)]) (M_cReader_expect  hc95) t_624 t_626 p_11 t_627 t_2 hx hb hts hown hC hX hS (hrc_c2 hC hX (by rfl)) hml hl.1 ⟨by rw [hRf]; decide, by rw [hRl]; decide⟩ ⟨rfl, rfl⟩ (n := 1) (by decide +kernel) rfl rfl rfl (lv_room (Nat.le_of_ble_eq_true rfl)) d_cReader_readBool_95 (fun H locs hX hS => ?_)
      obtain rfl := Option.some.inj h
      exact rt_z hQ hx hb hr hX hS hlk d_cReader_readBool_98
    refine lz_ifne hx hb d_cReader_readBool_49 (tgt := 71) (by decide) (fun hc => ?_) (fun hc => ?_)
    · rw [if_pos hc] at h
      exact J71 q44.1 H locs ls  hX hS (lv_sub hl [1, 0] rfl) h
    · rw [if_neg hc] at h
      refine lv_aload_n hx hb d_cReader_readBool_52 rfl (lv_at hl 1 rfl) ?_
      refine c_get_2_0 hx hb hts hown hC hX (by rfl) (hts _ t_227) d_cReader_readBool_53 ?_
      refine st_W (i := 13) hx hb hC hS hown (hts _ t_707) d_cReader_readBool_56 (by decide) ?_
      obtain ⟨q59, hc59, h⟩ := Option.bind_eq_some_iff.mp h
      refine ck_V (As := [.ref (ad 13)]) (rest := []) (st1 := [.int (bI q59.2)]) (M_cTokens_skipWord (by decide) hc59) t_620 t_621 t_622 t_623 t_3 hx hb hts hown hC hX hS (hrc_c3 hC hX (by rfl)) hml hl.1 ⟨by rw [hRf]; decide, by rw [hRl]; decide⟩ ⟨rfl, rfl⟩ (n := 1) (by decide +kernel) rfl rfl rfl (lv_room (Nat.le_of_ble_eq_true rfl)) d_cReader_readBool_59 (fun H locs hX hS => ?_)
      refine lz_ifne hx hb d_cReader_readBool_62 (tgt := 71) (by decide) (fun hc => ?_) (fun hc => ?_)
      · rw [if_pos hc] at h
        exact J71 q59.1 H locs ls  hX hS (lv_sub hl [1, 0] rfl) h
      · rw [if_neg hc] at h
        refine lv_aload_n hx hb d_cReader_readBool_65 rfl (lv_at hl 1 rfl) ?_
        refine lv_iconst (v := 1) hx hb d_cReader_readBool_66 (by decide) ?_
        obtain ⟨q67, hc67, h⟩ := Option.bind_eq_some_iff.mp h
        refine ck_V (As := [.int 1]) (rest := []) (st1 := [.int (bI q67.2)]) (M_cReader_refuse  hc67) t_575 t_577 p_8 t_578 t_2 hx hb hts hown hC hX hS (hrc_c2 hC hX (by rfl)) hml hl.1 ⟨by rw [hRf]; decide, by rw [hRl]; decide⟩ ⟨rfl, rfl⟩ (n := 1) (by decide +kernel) rfl rfl rfl (lv_room (Nat.le_of_ble_eq_true rfl)) d_cReader_readBool_67 (fun H locs hX hS => ?_)
        obtain rfl := Option.some.inj h
        exact rt_z hQ hx hb hr hX hS hlk d_cReader_readBool_70
  · rw [if_neg hc] at h
    refine lv_iconst (v := 0) hx hb d_cReader_readBool_35 (by decide) ?_
    obtain rfl := Option.some.inj h
    exact rt_zf hQ hx hb hr hX hS hlk d_cReader_readBool_36
abbrev y_cReader_readIf : MethodName := ({ cls := "TypeGuard$Reader", name := "readIf", desc := "()Z" } : Jvm.MethodName)
theorem d_cReader_readIf_0 : decode prog_7_method_12_code 0 = .ok (.aload_n 0, 1) := by decide +kernel
theorem d_cReader_readIf_1 : decode prog_7_method_12_code 1 = .ok (.getfield 12, 3) := by decide +kernel
theorem d_cReader_readIf_4 : decode prog_7_method_12_code 4 = .ok (.invokevirtual 129, 3) := by decide +kernel
theorem d_cReader_readIf_7 : decode prog_7_method_12_code 7 = .ok (.aload_n 0, 1) := by decide +kernel
theorem d_cReader_readIf_8 : decode prog_7_method_12_code 8 = .ok (.aload_n 0, 1) := by decide +kernel
theorem d_cReader_readIf_9 : decode prog_7_method_12_code 9 = .ok (.getfield 21, 3) := by decide +kernel
theorem d_cReader_readIf_12 : decode prog_7_method_12_code 12 = .ok (.getfield 180, 3) := by decide +kernel
theorem d_cReader_readIf_15 : decode prog_7_method_12_code 15 = .ok (.invokevirtual 173, 3) := by decide +kernel
theorem d_cReader_readIf_18 : decode prog_7_method_12_code 18 = .ok (.istore_n 1, 1) := by decide +kernel
theorem d_cReader_readIf_19 : decode prog_7_method_12_code 19 = .ok (.iload_n 1, 1) := by decide +kernel
theorem d_cReader_readIf_20 : decode prog_7_method_12_code 20 = .ok (.iconst (-1), 1) := by decide +kernel
theorem d_cReader_readIf_21 : decode prog_7_method_12_code 21 = .ok (.if_icmp .eq 12, 3) := by decide +kernel
theorem d_cReader_readIf_24 : decode prog_7_method_12_code 24 = .ok (.aload_n 0, 1) := by decide +kernel
theorem d_cReader_readIf_25 : decode prog_7_method_12_code 25 = .ok (.bipush 123, 2) := by decide +kernel
theorem d_cReader_readIf_27 : decode prog_7_method_12_code 27 = .ok (.invokevirtual 148, 3) := by decide +kernel
theorem d_cReader_readIf_30 : decode prog_7_method_12_code 30 = .ok (.ifCond .ne 5, 3) := by decide +kernel
theorem d_cReader_readIf_33 : decode prog_7_method_12_code 33 = .ok (.iconst 0, 1) := by decide +kernel
theorem d_cReader_readIf_34 : decode prog_7_method_12_code 34 = .ok (.ireturn, 1) := by decide +kernel
theorem d_cReader_readIf_35 : decode prog_7_method_12_code 35 = .ok (.aload_n 0, 1) := by decide +kernel
theorem d_cReader_readIf_36 : decode prog_7_method_12_code 36 = .ok (.iload_n 1, 1) := by decide +kernel
theorem d_cReader_readIf_37 : decode prog_7_method_12_code 37 = .ok (.putfield 32, 3) := by decide +kernel
theorem d_cReader_readIf_40 : decode prog_7_method_12_code 40 = .ok (.aload_n 0, 1) := by decide +kernel
theorem d_cReader_readIf_41 : decode prog_7_method_12_code 41 = .ok (.iconst 0, 1) := by decide +kernel
theorem d_cReader_readIf_42 : decode prog_7_method_12_code 42 = .ok (.putfield 196, 3) := by decide +kernel
theorem d_cReader_readIf_45 : decode prog_7_method_12_code 45 = .ok (.iconst 1, 1) := by decide +kernel
theorem d_cReader_readIf_46 : decode prog_7_method_12_code 46 = .ok (.ireturn, 1) := by decide +kernel
def cReader_readIf (S : CS) : Option (CS × Bool) := ((cTokens_advance S).bind fun q4 => (bd (gR q4 2 1) fun r9 => (if kd r9 = 7 then ((cReader_numberHere (r9 + 7) q4).bind fun q15 => (if q15.2 = (-1) then some (q15.1, false) else ((cReader_expect 123 q15.1).bind fun q27 => (if q27.2 = true then (bd (pI q27.1 2 4 q15.2) fun S37 => (bd (pB S37 2 5 false) fun S42 => some (S42, true))) else some (q27.1, false))))) else none)))
set_option maxHeartbeats 4000000 in
set_option maxRecDepth 100000 in
theorem M_cReader_readIf {l : Launch} {D : va_G} {cA : Nat → ClassId} {b : Nat} {ad : Nat → Nat}  {S : CS} {T : MS × (Nat → Int64)} {rr : (CS × Bool)}  (h : cReader_readIf  S = some rr) : Met l y_cReader_readIf (Cond.code y_cReader_readIf prog_7_method_12_code 2 (Option.some Jvm.ClassFile.FieldType.boolean) :: TW) { frames := 3, cells := 0, slots := 0, locals := 64 } (va_Pc [.ref (b + 2)] (Rp D cA b ad (S, T))) (Qr D cA b ad (rr.1, T) (some (.int (bI rr.2)))) 0 0 (Ab b) := by
  refine Ct_of (by decide) (Nat.le_of_ble_eq_true rfl) ?_
  intro p e R s m args below meth c ls Q H locs hR hQ hx hb hts hown hml hr hlk hC hX hS hl
  have hRf : R.frames = 3 := by rw [hR]
  have hRl : R.locals = 64 := by rw [hR]
  have hown : s.vm.findClass "TypeGuard$Reader" = some m.cls := hown
  have hl : lv_has ls 2 [(0, .ref (b + 2))] := hl
  rw [cReader_readIf] at h
  refine lv_aload_n hx hb d_cReader_readIf_0 rfl (lv_at hl 0 rfl) ?_
  refine c_get_2_0 hx hb hts hown hC hX (by rfl) (hts _ t_227) d_cReader_readIf_1 ?_
  obtain ⟨q4, hc4, h⟩ := Option.bind_eq_some_iff.mp h
  refine ck_V (As := []) (rest := []) (st1 := []) (M_cTokens_advance  hc4) t_591 t_592 t_593 t_594 t_3 hx hb hts hown hC hX hS (hrc_c3 hC hX (by rfl)) hml hl.1 ⟨by rw [hRf]; decide, by rw [hRl]; decide⟩ ⟨rfl, rfl⟩ (n := 0) (by decide +kernel) rfl rfl rfl (lv_room (Nat.le_of_ble_eq_true rfl)) d_cReader_readIf_4 (fun H locs hX hS => ?_)
  refine lv_aload_n hx hb d_cReader_readIf_7 rfl (lv_at hl 0 rfl) ?_
  refine lv_aload_n hx hb d_cReader_readIf_8 rfl (lv_at hl 0 rfl) ?_
  refine c_get_2_1 hx hb hts hown hC hX (by rfl) (hts _ t_228) d_cReader_readIf_9 ?_
  obtain ⟨r9, e9, h⟩ := bd_some h
  refine lt_R e9 ?_
  by_cases hkr9 : kd r9 = 7
  rotate_left; · rw [if_neg hkr9] at h; cases h
  rw [if_pos hkr9] at h
  refine c_get_7_3N (k := r9) hx hb hts hown hC hX hkr9 (va_Nw.use rfl (hC.2.1 _ t_195)) d_cReader_readIf_12 ?_
  obtain ⟨q15, hc15, h⟩ := Option.bind_eq_some_iff.mp h
  refine ck_V (As := [.ref (b + (r9 + 7))]) (rest := []) (st1 := [.int q15.2]) (M_cReader_numberHere (kx_7_7 hkr9) hc15) t_634 t_636 p_13 t_637 t_2 hx hb hts hown hC hX hS (hrc_c2 hC hX (by rfl)) hml hl.1 ⟨by rw [hRf]; decide, by rw [hRl]; decide⟩ ⟨rfl, rfl⟩ (n := 1) (by decide +kernel) rfl rfl rfl (lv_room (Nat.le_of_ble_eq_true rfl)) d_cReader_readIf_15 (fun H locs hX hS => ?_)
  refine lv_istore_n (lv' := [(1, .int q15.2), (0, .ref (b + 2))]) hx hb d_cReader_readIf_18 rfl hl (by decide) rfl (fun ls hl => ?_)
  refine lv_iload_n hx hb d_cReader_readIf_19 rfl (lv_at hl 0 rfl) ?_
  refine lv_iconst (v := (-1)) hx hb d_cReader_readIf_20 (by decide) ?_
  refine lv_icmp_eq hx hb d_cReader_readIf_21 (tgt := 33) (by decide) (fun hc => ?_) (fun hc => ?_)
  · rw [if_pos hc] at h
    refine lv_iconst (v := 0) hx hb d_cReader_readIf_33 (by decide) ?_
    obtain rfl := Option.some.inj h
    exact rt_zf hQ hx hb hr hX hS hlk d_cReader_readIf_34
  · rw [if_neg hc] at h
    refine lv_aload_n hx hb d_cReader_readIf_24 rfl (lv_at hl 1 rfl) ?_
    refine lv_bipush (v := 123) hx hb d_cReader_readIf_25 (by decide) ?_
    obtain ⟨q27, hc27, h⟩ := Option.bind_eq_some_iff.mp h
    refine ck_V (As := [.int 123]) (rest := []) (st1 := [.int (bI q27.2)]) (M_cReader_expect  hc27) t_624 t_626 p_11 t_627 t_2 hx hb hts hown hC hX hS (hrc_c2 hC hX (by rfl)) hml hl.1 ⟨by rw [hRf]; decide, by rw [hRl]; decide⟩ ⟨rfl, rfl⟩ (n := 1) (by decide +kernel) rfl rfl rfl (lv_room (Nat.le_of_ble_eq_true rfl)) d_cReader_readIf_27 (fun H locs hX hS => ?_)
    refine lz_ifne hx hb d_cReader_readIf_30 (tgt := 35) (by decide) (fun hc => ?_) (fun hc => ?_)
    · rw [if_pos hc] at h
      refine lv_aload_n hx hb d_cReader_readIf_35 rfl (lv_at hl 1 rfl) ?_
      refine lv_iload_n hx hb d_cReader_readIf_36 rfl (lv_at hl 0 rfl) ?_
      refine c_put_2_4 (v := q15.2) hx hb hts hown hC hX hS (by rfl) (hts _ t_233) d_cReader_readIf_37 (fun H locs hX hS => ?_)
      obtain ⟨S37, e37, h⟩ := bd_some h
      rw [← e37] at hX
      refine lv_aload_n hx hb d_cReader_readIf_40 rfl (lv_at hl 1 rfl) ?_
      refine lv_iconst (v := 0) hx hb d_cReader_readIf_41 (by decide) ?_
      refine c_put_2_5 (v := false) hx hb hts hown hC hX hS (by rfl) (hts _ t_234) d_cReader_readIf_42 (fun H locs hX hS => ?_)
      obtain ⟨S42, e42, h⟩ := bd_some h
      rw [← e42] at hX
      refine lv_iconst (v := 1) hx hb d_cReader_readIf_45 (by decide) ?_
      obtain rfl := Option.some.inj h
      exact rt_zt hQ hx hb hr hX hS hlk d_cReader_readIf_46
    · rw [if_neg hc] at h
      refine lv_iconst (v := 0) hx hb d_cReader_readIf_33 (by decide) ?_
      obtain rfl := Option.some.inj h
      exact rt_zf hQ hx hb hr hX hS hlk d_cReader_readIf_34
abbrev y_cReader_readStatement : MethodName := ({ cls := "TypeGuard$Reader", name := "readStatement", desc := "()Z" } : Jvm.MethodName)
theorem d_cReader_readStatement_0 : decode prog_7_method_7_code 0 = .ok (.aload_n 0, 1) := by decide +kernel
theorem d_cReader_readStatement_1 : decode prog_7_method_7_code 1 = .ok (.getfield 12, 3) := by decide +kernel
theorem d_cReader_readStatement_4 : decode prog_7_method_7_code 4 = .ok (.invokevirtual 78, 3) := by decide +kernel
theorem d_cReader_readStatement_7 : decode prog_7_method_7_code 7 = .ok (.astore_n 1, 1) := by decide +kernel
theorem d_cReader_readStatement_8 : decode prog_7_method_7_code 8 = .ok (.aload_n 1, 1) := by decide +kernel
theorem d_cReader_readStatement_9 : decode prog_7_method_7_code 9 = .ok (.getstatic 82, 3) := by decide +kernel
theorem d_cReader_readStatement_12 : decode prog_7_method_7_code 12 = .ok (.if_acmp .eq 17, 3) := by decide +kernel
theorem d_cReader_readStatement_15 : decode prog_7_method_7_code 15 = .ok (.aload_n 1, 1) := by decide +kernel
theorem d_cReader_readStatement_16 : decode prog_7_method_7_code 16 = .ok (.getstatic 88, 3) := by decide +kernel
theorem d_cReader_readStatement_19 : decode prog_7_method_7_code 19 = .ok (.if_acmp .eq 10, 3) := by decide +kernel
theorem d_cReader_readStatement_22 : decode prog_7_method_7_code 22 = .ok (.aload_n 1, 1) := by decide +kernel
theorem d_cReader_readStatement_23 : decode prog_7_method_7_code 23 = .ok (.getstatic 91, 3) := by decide +kernel
theorem d_cReader_readStatement_26 : decode prog_7_method_7_code 26 = .ok (.if_acmp .ne 9, 3) := by decide +kernel
theorem d_cReader_readStatement_29 : decode prog_7_method_7_code 29 = .ok (.aload_n 0, 1) := by decide +kernel
theorem d_cReader_readStatement_30 : decode prog_7_method_7_code 30 = .ok (.aload_n 1, 1) := by decide +kernel
theorem d_cReader_readStatement_31 : decode prog_7_method_7_code 31 = .ok (.invokevirtual 94, 3) := by decide +kernel
theorem d_cReader_readStatement_34 : decode prog_7_method_7_code 34 = .ok (.ireturn, 1) := by decide +kernel
theorem d_cReader_readStatement_35 : decode prog_7_method_7_code 35 = .ok (.aload_n 0, 1) := by decide +kernel
theorem d_cReader_readStatement_36 : decode prog_7_method_7_code 36 = .ok (.getfield 32, 3) := by decide +kernel
theorem d_cReader_readStatement_39 : decode prog_7_method_7_code 39 = .ok (.iconst (-1), 1) := by decide +kernel
theorem d_cReader_readStatement_40 : decode prog_7_method_7_code 40 = .ok (.if_icmp .eq 8, 3) := by decide +kernel
theorem d_cReader_readStatement_43 : decode prog_7_method_7_code 43 = .ok (.aload_n 0, 1) := by decide +kernel
theorem d_cReader_readStatement_44 : decode prog_7_method_7_code 44 = .ok (.invokevirtual 98, 3) := by decide +kernel
theorem d_cReader_readStatement_47 : decode prog_7_method_7_code 47 = .ok (.ireturn, 1) := by decide +kernel
theorem d_cReader_readStatement_48 : decode prog_7_method_7_code 48 = .ok (.getstatic 101, 3) := by decide +kernel
theorem d_cReader_readStatement_51 : decode prog_7_method_7_code 51 = .ok (.aload_n 1, 1) := by decide +kernel
theorem d_cReader_readStatement_52 : decode prog_7_method_7_code 52 = .ok (.invokevirtual 107, 3) := by decide +kernel
theorem d_cReader_readStatement_55 : decode prog_7_method_7_code 55 = .ok (.iaload, 1) := by decide +kernel
theorem d_cReader_readStatement_56 : decode prog_7_method_7_code 56 = .ok (.tableswitch 75 1 7 #[44, 49, 54, 59, 64, 64, 70], 44) := by decide +kernel
theorem d_cReader_readStatement_100 : decode prog_7_method_7_code 100 = .ok (.aload_n 0, 1) := by decide +kernel
theorem d_cReader_readStatement_101 : decode prog_7_method_7_code 101 = .ok (.invokevirtual 110, 3) := by decide +kernel
theorem d_cReader_readStatement_104 : decode prog_7_method_7_code 104 = .ok (.ireturn, 1) := by decide +kernel
theorem d_cReader_readStatement_105 : decode prog_7_method_7_code 105 = .ok (.aload_n 0, 1) := by decide +kernel
theorem d_cReader_readStatement_106 : decode prog_7_method_7_code 106 = .ok (.invokevirtual 113, 3) := by decide +kernel
theorem d_cReader_readStatement_109 : decode prog_7_method_7_code 109 = .ok (.ireturn, 1) := by decide +kernel
theorem d_cReader_readStatement_110 : decode prog_7_method_7_code 110 = .ok (.aload_n 0, 1) := by decide +kernel
theorem d_cReader_readStatement_111 : decode prog_7_method_7_code 111 = .ok (.invokevirtual 116, 3) := by decide +kernel
theorem d_cReader_readStatement_114 : decode prog_7_method_7_code 114 = .ok (.ireturn, 1) := by decide +kernel
theorem d_cReader_readStatement_115 : decode prog_7_method_7_code 115 = .ok (.aload_n 0, 1) := by decide +kernel
theorem d_cReader_readStatement_116 : decode prog_7_method_7_code 116 = .ok (.invokevirtual 119, 3) := by decide +kernel
theorem d_cReader_readStatement_119 : decode prog_7_method_7_code 119 = .ok (.ireturn, 1) := by decide +kernel
theorem d_cReader_readStatement_120 : decode prog_7_method_7_code 120 = .ok (.aload_n 0, 1) := by decide +kernel
theorem d_cReader_readStatement_121 : decode prog_7_method_7_code 121 = .ok (.aload_n 1, 1) := by decide +kernel
theorem d_cReader_readStatement_122 : decode prog_7_method_7_code 122 = .ok (.invokevirtual 94, 3) := by decide +kernel
theorem d_cReader_readStatement_125 : decode prog_7_method_7_code 125 = .ok (.ireturn, 1) := by decide +kernel
theorem d_cReader_readStatement_126 : decode prog_7_method_7_code 126 = .ok (.aload_n 0, 1) := by decide +kernel
theorem d_cReader_readStatement_127 : decode prog_7_method_7_code 127 = .ok (.invokevirtual 122, 3) := by decide +kernel
theorem d_cReader_readStatement_130 : decode prog_7_method_7_code 130 = .ok (.ireturn, 1) := by decide +kernel
theorem d_cReader_readStatement_131 : decode prog_7_method_7_code 131 = .ok (.aload_n 0, 1) := by decide +kernel
theorem d_cReader_readStatement_132 : decode prog_7_method_7_code 132 = .ok (.iconst 1, 1) := by decide +kernel
theorem d_cReader_readStatement_133 : decode prog_7_method_7_code 133 = .ok (.invokevirtual 125, 3) := by decide +kernel
theorem d_cReader_readStatement_136 : decode prog_7_method_7_code 136 = .ok (.ireturn, 1) := by decide +kernel
def cReader_readStatement_J29 (v1_29 : Nat) (S_29 : CS) : Option (CS × Bool) := ((cReader_readRule v1_29 S_29).bind fun q31 => some (q31.1, q31.2))
def cReader_readStatement (S : CS) : Option (CS × Bool) := ((cTokens_word S).bind fun q4 => (if q4 < 15 then (if q4 = 5 then cReader_readStatement_J29 q4 S else (if q4 = 6 then cReader_readStatement_J29 q4 S else (if q4 = 7 then cReader_readStatement_J29 q4 S else (if (gI S 2 4) = (-1) then (if inbd (nI q4) 15 = true then (if (swm (nI q4)) = 1 then ((cReader_readClass S).bind fun q101 => some (q101.1, q101.2)) else (if (swm (nI q4)) = 2 then ((cReader_readAttribute S).bind fun q106 => some (q106.1, q106.2)) else (if (swm (nI q4)) = 3 then ((cReader_readType S).bind fun q111 => some (q111.1, q111.2)) else (if (swm (nI q4)) = 4 then ((cReader_readBool S).bind fun q116 => some (q116.1, q116.2)) else (if (swm (nI q4)) = 5 then ((cReader_readRule q4 S).bind fun q122 => some (q122.1, q122.2)) else (if (swm (nI q4)) = 6 then ((cReader_readRule q4 S).bind fun q122 => some (q122.1, q122.2)) else (if (swm (nI q4)) = 7 then ((cReader_readIf S).bind fun q127 => some (q127.1, q127.2)) else ((cReader_refuse 1 S).bind fun q133 => some (q133.1, q133.2))))))))) else none) else ((cReader_readEndOfBlock S).bind fun q44 => some (q44.1, q44.2)))))) else none))
set_option maxHeartbeats 4000000 in
set_option maxRecDepth 100000 in
theorem M_cReader_readStatement {l : Launch} {D : va_G} {cA : Nat → ClassId} {b : Nat} {ad : Nat → Nat}  {S : CS} {T : MS × (Nat → Int64)} {rr : (CS × Bool)}  (h : cReader_readStatement  S = some rr) : Met l y_cReader_readStatement (Cond.code y_cReader_readStatement prog_7_method_7_code 2 (Option.some Jvm.ClassFile.FieldType.boolean) :: TW) { frames := 4, cells := 0, slots := 0, locals := 95 } (va_Pc [.ref (b + 2)] (Rp D cA b ad (S, T))) (Qr D cA b ad (rr.1, T) (some (.int (bI rr.2)))) 0 0 (Ab b) := by
  refine Ct_of (by decide) (Nat.le_of_ble_eq_true rfl) ?_
  intro p e R s m args below meth c ls Q H locs hR hQ hx hb hts hown hml hr hlk hC hX hS hl
  have hRf : R.frames = 4 := by rw [hR]
  have hRl : R.locals = 95 := by rw [hR]
  have hown : s.vm.findClass "TypeGuard$Reader" = some m.cls := hown
  have hl : lv_has ls 2 [(0, .ref (b + 2))] := hl
  rw [cReader_readStatement] at h
  refine lv_aload_n hx hb d_cReader_readStatement_0 rfl (lv_at hl 0 rfl) ?_
  refine c_get_2_0 hx hb hts hown hC hX (by rfl) (hts _ t_227) d_cReader_readStatement_1 ?_
  obtain ⟨q4, hc4, h⟩ := Option.bind_eq_some_iff.mp h
  refine ck_V (As := []) (rest := []) (st1 := [.ref (ad q4)]) (M_cTokens_word  hc4) t_555 t_556 t_557 t_558 t_3 hx hb hts hown hC hX hS (hrc_c3 hC hX (by rfl)) hml hl.1 ⟨by rw [hRf]; decide, by rw [hRl]; decide⟩ ⟨rfl, rfl⟩ (n := 0) (by decide +kernel) rfl rfl rfl (lv_room (Nat.le_of_ble_eq_true rfl)) d_cReader_readStatement_4 (fun H locs hX hS => ?_)
  by_cases hkq4 : q4 < 15
  rotate_left; · rw [if_neg hkq4] at h; cases h
  rw [if_pos hkq4] at h
  refine lv_astore_n (lv' := [(1, .ref (ad q4)), (0, .ref (b + 2))]) hx hb d_cReader_readStatement_7 rfl hl (by decide) rfl (fun ls hl => ?_)
  refine lv_aload_n hx hb d_cReader_readStatement_8 rfl (lv_at hl 0 rfl) ?_
  refine st_W (i := 5) hx hb hC hS hown (hts _ t_565) d_cReader_readStatement_9 (by decide) ?_
  have J29 : ∀  (H : Heap) (locs : List Loc) (ls : Array Slot), hp D cA b ad (S, T) H → va_S (Ab b) s.heap H locs → lv_has ls 2 [(0, .ref (b + 2)), (1, .ref (ad q4))] → cReader_readStatement_J29 q4 S = some rr → W p l e R s m args below meth c H locs 0 0 Q (F0 m 29 ls []) := by
    intro  H locs ls  hX hS hl h
    rw [cReader_readStatement_J29] at h
    refine lv_aload_n hx hb d_cReader_readStatement_29 rfl (lv_at hl 0 rfl) ?_
    refine lv_aload_n hx hb d_cReader_readStatement_30 rfl (lv_at hl 1 rfl) ?_
    obtain ⟨q31, hc31, h⟩ := Option.bind_eq_some_iff.mp h
    refine ck_V (As := [.ref (ad q4)]) (rest := []) (st1 := [.int (bI q31.2)]) (M_cReader_readRule hkq4 hc31) t_571 t_573 p_7 t_574 t_2 hx hb hts hown hC hX hS (hrc_c2 hC hX (by rfl)) hml hl.1 ⟨by rw [hRf]; decide, by rw [hRl]; decide⟩ ⟨rfl, rfl⟩ (n := 1) (by decide +kernel) rfl rfl rfl (lv_room (Nat.le_of_ble_eq_true rfl)) d_cReader_readStatement_31 (fun H locs hX hS => ?_)
    obtain rfl := Option.some.inj h
    exact rt_z hQ hx hb hr hX hS hlk d_cReader_readStatement_34
  refine lw_acmpeq hx hb (hC.2.2.1) hkq4 (by decide) d_cReader_readStatement_12 (tgt := 29) (by decide) (fun hc => ?_) (fun hc => ?_)
  · rw [if_pos hc] at h
    exact J29  H locs ls  hX hS (lv_sub hl [1, 0] rfl) h
  · rw [if_neg hc] at h
    refine lv_aload_n hx hb d_cReader_readStatement_15 rfl (lv_at hl 0 rfl) ?_
    refine st_W (i := 6) hx hb hC hS hown (hts _ t_567) d_cReader_readStatement_16 (by decide) ?_
    refine lw_acmpeq hx hb (hC.2.2.1) hkq4 (by decide) d_cReader_readStatement_19 (tgt := 29) (by decide) (fun hc => ?_) (fun hc => ?_)
    · rw [if_pos hc] at h
      exact J29  H locs ls  hX hS (lv_sub hl [1, 0] rfl) h
    · rw [if_neg hc] at h
      refine lv_aload_n hx hb d_cReader_readStatement_22 rfl (lv_at hl 0 rfl) ?_
      refine st_W (i := 7) hx hb hC hS hown (hts _ t_569) d_cReader_readStatement_23 (by decide) ?_
      refine lw_acmpne hx hb (hC.2.2.1) hkq4 (by decide) d_cReader_readStatement_26 (tgt := 35) (by decide) (fun hc => ?_) (fun hc => ?_)
      · rw [if_neg hc] at h
        refine lv_aload_n hx hb d_cReader_readStatement_35 rfl (lv_at hl 1 rfl) ?_
        refine c_get_2_4 hx hb hts hown hC hX (by rfl) (hts _ t_233) d_cReader_readStatement_36 ?_
        refine lv_iconst (v := (-1)) hx hb d_cReader_readStatement_39 (by decide) ?_
        refine lv_icmp_eq hx hb d_cReader_readStatement_40 (tgt := 48) (by decide) (fun hc => ?_) (fun hc => ?_)
        · rw [if_pos hc] at h
          refine st_SW hx hb hC hS hown (hts _ t_667) d_cReader_readStatement_48 ?_
          refine lv_aload_n hx hb d_cReader_readStatement_51 rfl (lv_at hl 0 rfl) ?_
          refine jd_ord t_669 hx hb hts hown hC hX hS hml hl.1 ⟨by rw [hRf]; decide, by rw [hRl]; decide⟩ hkq4 (lv_room (Nat.le_of_ble_eq_true rfl)) d_cReader_readStatement_52 (fun H locs hX hS => ?_)
          by_cases hg55 : inbd (nI q4) 15 = true
          rotate_left; · rw [if_neg hg55] at h; cases h
          rw [if_pos hg55] at h
          refine st_swm hx hb hC hS hg55 d_cReader_readStatement_55 ?_
          by_cases hc0 : (swm (nI q4)) = 1
          · rw [if_pos hc0] at h
            refine tb_in (k := 1) hx hb d_cReader_readStatement_56 hc0 (off := 44) (by decide) (by decide) (by decide) (tgt := 100) (by decide) ?_
            refine lv_aload_n hx hb d_cReader_readStatement_100 rfl (lv_at hl 1 rfl) ?_
            obtain ⟨q101, hc101, h⟩ := Option.bind_eq_some_iff.mp h
            refine ck_V (As := []) (rest := []) (st1 := [.int (bI q101.2)]) (M_cReader_readClass  hc101) t_675 t_677 p_19 t_678 t_2 hx hb hts hown hC hX hS (hrc_c2 hC hX (by rfl)) hml hl.1 ⟨by rw [hRf]; decide, by rw [hRl]; decide⟩ ⟨rfl, rfl⟩ (n := 0) (by decide +kernel) rfl rfl rfl (lv_room (Nat.le_of_ble_eq_true rfl)) d_cReader_readStatement_101 (fun H locs hX hS => ?_)
            obtain rfl := Option.some.inj h
            exact rt_z hQ hx hb hr hX hS hlk d_cReader_readStatement_104
          rw [if_neg hc0] at h
          by_cases hc1 : (swm (nI q4)) = 2
          · rw [if_pos hc1] at h
            refine tb_in (k := 2) hx hb d_cReader_readStatement_56 hc1 (off := 49) (by decide) (by decide) (by decide) (tgt := 105) (by decide) ?_
            refine lv_aload_n hx hb d_cReader_readStatement_105 rfl (lv_at hl 1 rfl) ?_
            obtain ⟨q106, hc106, h⟩ := Option.bind_eq_some_iff.mp h
            refine ck_V (As := []) (rest := []) (st1 := [.int (bI q106.2)]) (M_cReader_readAttribute  hc106) t_693 t_695 p_21 t_696 t_2 hx hb hts hown hC hX hS (hrc_c2 hC hX (by rfl)) hml hl.1 ⟨by rw [hRf]; decide, by rw [hRl]; decide⟩ ⟨rfl, rfl⟩ (n := 0) (by decide +kernel) rfl rfl rfl (lv_room (Nat.le_of_ble_eq_true rfl)) d_cReader_readStatement_106 (fun H locs hX hS => ?_)
            obtain rfl := Option.some.inj h
            exact rt_z hQ hx hb hr hX hS hlk d_cReader_readStatement_109
          rw [if_neg hc1] at h
          by_cases hc2 : (swm (nI q4)) = 3
          · rw [if_pos hc2] at h
            refine tb_in (k := 3) hx hb d_cReader_readStatement_56 hc2 (off := 54) (by decide) (by decide) (by decide) (tgt := 110) (by decide) ?_
            refine lv_aload_n hx hb d_cReader_readStatement_110 rfl (lv_at hl 1 rfl) ?_
            obtain ⟨q111, hc111, h⟩ := Option.bind_eq_some_iff.mp h
            refine ck_V (As := []) (rest := []) (st1 := [.int (bI q111.2)]) (M_cReader_readType  hc111) t_697 t_699 p_22 t_700 t_2 hx hb hts hown hC hX hS (hrc_c2 hC hX (by rfl)) hml hl.1 ⟨by rw [hRf]; decide, by rw [hRl]; decide⟩ ⟨rfl, rfl⟩ (n := 0) (by decide +kernel) rfl rfl rfl (lv_room (Nat.le_of_ble_eq_true rfl)) d_cReader_readStatement_111 (fun H locs hX hS => ?_)
            obtain rfl := Option.some.inj h
            exact rt_z hQ hx hb hr hX hS hlk d_cReader_readStatement_114
          rw [if_neg hc2] at h
          by_cases hc3 : (swm (nI q4)) = 4
          · rw [if_pos hc3] at h
            refine tb_in (k := 4) hx hb d_cReader_readStatement_56 hc3 (off := 59) (by decide) (by decide) (by decide) (tgt := 115) (by decide) ?_
            refine lv_aload_n hx hb d_cReader_readStatement_115 rfl (lv_at hl 1 rfl) ?_
            obtain ⟨q116, hc116, h⟩ := Option.bind_eq_some_iff.mp h
            refine ck_V (As := []) (rest := []) (st1 := [.int (bI q116.2)]) (M_cReader_readBool  hc116) t_701 t_703 p_23 t_704 t_2 hx hb hts hown hC hX hS (hrc_c2 hC hX (by rfl)) hml hl.1 ⟨by rw [hRf]; decide, by rw [hRl]; decide⟩ ⟨rfl, rfl⟩ (n := 0) (by decide +kernel) rfl rfl rfl (lv_room (Nat.le_of_ble_eq_true rfl)) d_cReader_readStatement_116 (fun H locs hX hS => ?_)
            obtain rfl := Option.some.inj h
            exact rt_z hQ hx hb hr hX hS hlk d_cReader_readStatement_119
          rw [if_neg hc3] at h
          by_cases hc4 : (swm (nI q4)) = 5
          · rw [if_pos hc4] at h
            refine tb_in (k := 5) hx hb d_cReader_readStatement_56 hc4 (off := 64) (by decide) (by decide) (by decide) (tgt := 120) (by decide) ?_
            refine lv_aload_n hx hb d_cReader_readStatement_120 rfl (lv_at hl 1 rfl) ?_
            refine lv_aload_n hx hb d_cReader_readStatement_121 rfl (lv_at hl 0 rfl) ?_
            obtain ⟨q122, hc122, h⟩ := Option.bind_eq_some_iff.mp h
            refine ck_V (As := [.ref (ad q4)]) (rest := []) (st1 := [.int (bI q122.2)]) (M_cReader_readRule hkq4 hc122) t_571 t_573 p_7 t_574 t_2 hx hb hts hown hC hX hS (hrc_c2 hC hX (by rfl)) hml hl.1 ⟨by rw [hRf]; decide, by rw [hRl]; decide⟩ ⟨rfl, rfl⟩ (n := 1) (by decide +kernel) rfl rfl rfl (lv_room (Nat.le_of_ble_eq_true rfl)) d_cReader_readStatement_122 (fun H locs hX hS => ?_)
            obtain rfl := Option.some.inj h
            exact rt_z hQ hx hb hr hX hS hlk d_cReader_readStatement_125
          rw [if_neg hc4] at h
          by_cases hc5 : (swm (nI q4)) = 6
          · rw [if_pos hc5] at h
            refine tb_in (k := 6) hx hb d_cReader_readStatement_56 hc5 (off := 64) (by decide) (by decide) (by decide) (tgt := 120) (by decide) ?_
            refine lv_aload_n hx hb d_cReader_readStatement_120 rfl (lv_at hl 1 rfl) ?_
            refine lv_aload_n hx hb d_cReader_readStatement_121 rfl (lv_at hl 0 rfl) ?_
            obtain ⟨q122, hc122, h⟩ := Option.bind_eq_some_iff.mp h
            refine ck_V (As := [.ref (ad q4)]) (rest := []) (st1 := [.int (bI q122.2)]) (M_cReader_readRule hkq4 hc122) t_571 t_573 p_7 t_574 t_2 hx hb hts hown hC hX hS (hrc_c2 hC hX (by rfl)) hml hl.1 ⟨by rw [hRf]; decide, by rw [hRl]; decide⟩ ⟨rfl, rfl⟩ (n := 1) (by decide +kernel) rfl rfl rfl (lv_room (Nat.le_of_ble_eq_true rfl)) d_cReader_readStatement_122 (fun H locs hX hS => ?_)
            obtain rfl := Option.some.inj h
            exact rt_z hQ hx hb hr hX hS hlk d_cReader_readStatement_125
          rw [if_neg hc5] at h
          by_cases hc6 : (swm (nI q4)) = 7
          · rw [if_pos hc6] at h
            refine tb_in (k := 7) hx hb d_cReader_readStatement_56 hc6 (off := 70) (by decide) (by decide) (by decide) (tgt := 126) (by decide) ?_
            refine lv_aload_n hx hb d_cReader_readStatement_126 rfl (lv_at hl 1 rfl) ?_
            obtain ⟨q127, hc127, h⟩ := Option.bind_eq_some_iff.mp h
            refine ck_V (As := []) (rest := []) (st1 := [.int (bI q127.2)]) (M_cReader_readIf  hc127) t_709 t_711 p_24 t_712 t_2 hx hb hts hown hC hX hS (hrc_c2 hC hX (by rfl)) hml hl.1 ⟨by rw [hRf]; decide, by rw [hRl]; decide⟩ ⟨rfl, rfl⟩ (n := 0) (by decide +kernel) rfl rfl rfl (lv_room (Nat.le_of_ble_eq_true rfl)) d_cReader_readStatement_127 (fun H locs hX hS => ?_)
            obtain rfl := Option.some.inj h
            exact rt_z hQ hx hb hr hX hS hlk d_cReader_readStatement_130
          rw [if_neg hc6] at h
          refine tb_out hx hb d_cReader_readStatement_56 (by have n0 := ni_ne (a := 1) (by decide) hc0; have n1 := ni_ne (a := 2) (by decide) hc1; have n2 := ni_ne (a := 3) (by decide) hc2; have n3 := ni_ne (a := 4) (by decide) hc3; have n4 := ni_ne (a := 5) (by decide) hc4; have n5 := ni_ne (a := 6) (by decide) hc5; have n6 := ni_ne (a := 7) (by decide) hc6; omega) (tgt := 131) (by decide) ?_
          refine lv_aload_n hx hb d_cReader_readStatement_131 rfl (lv_at hl 1 rfl) ?_
          refine lv_iconst (v := 1) hx hb d_cReader_readStatement_132 (by decide) ?_
          obtain ⟨q133, hc133, h⟩ := Option.bind_eq_some_iff.mp h
          refine ck_V (As := [.int 1]) (rest := []) (st1 := [.int (bI q133.2)]) (M_cReader_refuse  hc133) t_575 t_577 p_8 t_578 t_2 hx hb hts hown hC hX hS (hrc_c2 hC hX (by rfl)) hml hl.1 ⟨by rw [hRf]; decide, by rw [hRl]; decide⟩ ⟨rfl, rfl⟩ (n := 1) (by decide +kernel) rfl rfl rfl (lv_room (Nat.le_of_ble_eq_true rfl)) d_cReader_readStatement_133 (fun H locs hX hS => ?_)
          obtain rfl := Option.some.inj h
          exact rt_z hQ hx hb hr hX hS hlk d_cReader_readStatement_136
        · rw [if_neg hc] at h
          refine lv_aload_n hx hb d_cReader_readStatement_43 rfl (lv_at hl 1 rfl) ?_
          obtain ⟨q44, hc44, h⟩ := Option.bind_eq_some_iff.mp h
          refine ck_V (As := []) (rest := []) (st1 := [.int (bI q44.2)]) (M_cReader_readEndOfBlock  hc44) t_661 t_663 p_18 t_664 t_2 hx hb hts hown hC hX hS (hrc_c2 hC hX (by rfl)) hml hl.1 ⟨by rw [hRf]; decide, by rw [hRl]; decide⟩ ⟨rfl, rfl⟩ (n := 0) (by decide +kernel) rfl rfl rfl (lv_room (Nat.le_of_ble_eq_true rfl)) d_cReader_readStatement_44 (fun H locs hX hS => ?_)
          obtain rfl := Option.some.inj h
          exact rt_z hQ hx hb hr hX hS hlk d_cReader_readStatement_47
      · rw [if_pos hc] at h
        exact J29  H locs ls  hX hS (lv_sub hl [1, 0] rfl) h
abbrev y_cPolicy_membersOf : MethodName := ({ cls := "TypeGuard$Policy", name := "membersOf", desc := "(I)I" } : Jvm.MethodName)
theorem d_cPolicy_membersOf_0 : decode prog_6_method_13_code 0 = .ok (.iconst 0, 1) := by decide +kernel
theorem d_cPolicy_membersOf_1 : decode prog_6_method_13_code 1 = .ok (.istore_n 2, 1) := by decide +kernel
theorem d_cPolicy_membersOf_2 : decode prog_6_method_13_code 2 = .ok (.iconst 0, 1) := by decide +kernel
theorem d_cPolicy_membersOf_3 : decode prog_6_method_13_code 3 = .ok (.istore_n 3, 1) := by decide +kernel
theorem d_cPolicy_membersOf_4 : decode prog_6_method_13_code 4 = .ok (.iload_n 3, 1) := by decide +kernel
theorem d_cPolicy_membersOf_5 : decode prog_6_method_13_code 5 = .ok (.iconst 4, 1) := by decide +kernel
theorem d_cPolicy_membersOf_6 : decode prog_6_method_13_code 6 = .ok (.if_icmp .ge 26, 3) := by decide +kernel
theorem d_cPolicy_membersOf_9 : decode prog_6_method_13_code 9 = .ok (.iload_n 1, 1) := by decide +kernel
theorem d_cPolicy_membersOf_10 : decode prog_6_method_13_code 10 = .ok (.iload_n 3, 1) := by decide +kernel
theorem d_cPolicy_membersOf_11 : decode prog_6_method_13_code 11 = .ok (.invokestatic 72, 3) := by decide +kernel
theorem d_cPolicy_membersOf_14 : decode prog_6_method_13_code 14 = .ok (.ifCond .eq 12, 3) := by decide +kernel
theorem d_cPolicy_membersOf_17 : decode prog_6_method_13_code 17 = .ok (.iload_n 2, 1) := by decide +kernel
theorem d_cPolicy_membersOf_18 : decode prog_6_method_13_code 18 = .ok (.aload_n 0, 1) := by decide +kernel
theorem d_cPolicy_membersOf_19 : decode prog_6_method_13_code 19 = .ok (.getfield 33, 3) := by decide +kernel
theorem d_cPolicy_membersOf_22 : decode prog_6_method_13_code 22 = .ok (.iload_n 3, 1) := by decide +kernel
theorem d_cPolicy_membersOf_23 : decode prog_6_method_13_code 23 = .ok (.iaload, 1) := by decide +kernel
theorem d_cPolicy_membersOf_24 : decode prog_6_method_13_code 24 = .ok (.ior, 1) := by decide +kernel
theorem d_cPolicy_membersOf_25 : decode prog_6_method_13_code 25 = .ok (.istore_n 2, 1) := by decide +kernel
theorem d_cPolicy_membersOf_26 : decode prog_6_method_13_code 26 = .ok (.iinc 3 1, 3) := by decide +kernel
theorem d_cPolicy_membersOf_29 : decode prog_6_method_13_code 29 = .ok (.goto (-25), 3) := by decide +kernel
theorem d_cPolicy_membersOf_32 : decode prog_6_method_13_code 32 = .ok (.iload_n 2, 1) := by decide +kernel
theorem d_cPolicy_membersOf_33 : decode prog_6_method_13_code 33 = .ok (.ireturn, 1) := by decide +kernel
def cPolicy_membersOf_L4 (v0_4 : Nat) (v1_4 : Int32) (S_4 : CS) : Nat → Int32 → Int32 → Option Int32
  | 0, _, _ => none
  | n + 1, v2_4, v3_4 => (if 4 ≤ v3_4 then some v2_4 else ((cG_hasBit v1_4 v3_4).bind fun q11 => (if q11 = true then (if inbd v3_4 4 = true then (bd ((v2_4 ||| (gI S_4 (v0_4 + 10) (txN v3_4)))) fun a25 => (bd ((v3_4 + 1)) fun a26 => (cPolicy_membersOf_L4 v0_4 v1_4 S_4 n) a25 a26)) else none) else (bd ((v3_4 + 1)) fun a26 => (cPolicy_membersOf_L4 v0_4 v1_4 S_4 n) v2_4 a26))))
def cPolicy_membersOf (k0 : Nat) (x1 : Int32) (S : CS) : Option Int32 := cPolicy_membersOf_L4 k0 x1 S 600 0 0
set_option maxHeartbeats 4000000 in
set_option maxRecDepth 100000 in
theorem M_cPolicy_membersOf {l : Launch} {D : va_G} {cA : Nat → ClassId} {b : Nat} {ad : Nat → Nat} {k0 : Nat} {x1 : Int32} {S : CS} {T : MS × (Nat → Int64)} {rr : Int32} (hk0 : kd k0 = 7) (h : cPolicy_membersOf k0 x1 S = some rr) : Met l y_cPolicy_membersOf (Cond.code y_cPolicy_membersOf prog_6_method_13_code 4 (Option.some Jvm.ClassFile.FieldType.int) :: TW) { frames := 1, cells := 0, slots := 0, locals := 21 } (va_Pc [.ref (b + k0), .int x1] (Rp D cA b ad (S, T))) (Qr D cA b ad (S, T) (some (.int rr))) 0 0 (Ab b) := by
  refine Ct_of (by decide) (Nat.le_of_ble_eq_true rfl) ?_
  intro p e R s m args below meth c ls Q H locs hR hQ hx hb hts hown hml hr hlk hC hX hS hl
  have hRf : R.frames = 1 := by rw [hR]
  have hRl : R.locals = 21 := by rw [hR]
  have hown : s.vm.findClass "TypeGuard$Policy" = some m.cls := hown
  have hl : lv_has ls 4 [(0, .ref (b + k0)), (1, .int x1)] := hl
  rw [cPolicy_membersOf] at h
  refine lv_iconst (v := 0) hx hb d_cPolicy_membersOf_0 (by decide) ?_
  refine lv_istore_n (lv' := [(2, .int 0), (0, .ref (b + k0)), (1, .int x1)]) hx hb d_cPolicy_membersOf_1 rfl hl (by decide) rfl (fun ls hl => ?_)
  refine lv_iconst (v := 0) hx hb d_cPolicy_membersOf_2 (by decide) ?_
  refine lv_istore_n (lv' := [(3, .int 0), (2, .int 0), (0, .ref (b + k0)), (1, .int x1)]) hx hb d_cPolicy_membersOf_3 rfl hl (by decide) rfl (fun ls hl => ?_)
  have L4 : ∀ (n4 : Nat) (v2_4 : Int32) (v3_4 : Int32) (H : Heap) (locs : List Loc) (ls : Array Slot), hp D cA b ad (S, T) H → va_S (Ab b) s.heap H locs → lv_has ls 4 [(0, .ref (b + k0)), (1, .int x1), (2, .int v2_4), (3, .int v3_4)] → cPolicy_membersOf_L4 k0 x1 S n4 v2_4 v3_4 = some rr → W p l e R s m args below meth c H locs 0 0 Q (F0 m 4 ls []) := by
    intro n4; induction n4 with
    | zero => intro v2_4 v3_4 H locs ls  hX hS hl h; rw [cPolicy_membersOf_L4] at h; cases h
    | succ n4 ih4 =>
      intro v2_4 v3_4 H locs ls  hX hS hl h
      rw [cPolicy_membersOf_L4] at h
      refine lv_iload_n hx hb d_cPolicy_membersOf_4 rfl (lv_at hl 3 rfl) ?_
      refine lv_iconst (v := 4) hx hb d_cPolicy_membersOf_5 (by decide) ?_
      refine lv_icmp_ge hx hb d_cPolicy_membersOf_6 (tgt := 32) (by decide) (fun hc => ?_) (fun hc => ?_)
      · rw [if_pos hc] at h
        refine lv_iload_n hx hb d_cPolicy_membersOf_32 rfl (lv_at hl 2 rfl) ?_
        obtain rfl := Option.some.inj h
        exact rt_i hQ hx hb hr hX hS hlk d_cPolicy_membersOf_33
      · rw [if_neg hc] at h
        refine lv_iload_n hx hb d_cPolicy_membersOf_9 rfl (lv_at hl 1 rfl) ?_
        refine lv_iload_n hx hb d_cPolicy_membersOf_10 rfl (lv_at hl 3 rfl) ?_
        obtain ⟨q11, hc11, h⟩ := Option.bind_eq_some_iff.mp h
        refine ck_SN (As := [.int x1, .int v3_4]) (rest := []) (st1 := [.int (bI q11)]) (M_cG_hasBit  hc11) (hC.2.1 _ t_726) t_651 t_652 t_1 hx hb hts hown hC hX hS  hml hl.1 ⟨by rw [hRf]; decide, by rw [hRl]; decide⟩ ⟨rfl, rfl⟩ (n := 2) (by decide +kernel) rfl rfl rfl (lv_room (Nat.le_of_ble_eq_true rfl)) d_cPolicy_membersOf_11 (fun H locs hX hS => ?_)
        refine lz_ifeq hx hb d_cPolicy_membersOf_14 (tgt := 26) (by decide) (fun hc => ?_) (fun hc => ?_)
        · rw [if_neg hc] at h
          obtain ⟨a26, e26, h⟩ := bd_some h
          refine lv_iinc (v := a26) (lv' := [(3, .int a26), (0, .ref (b + k0)), (1, .int x1), (2, .int v2_4)]) hx hb d_cPolicy_membersOf_26 hl (k := 3) rfl e26.symm (by decide) rfl (fun ls hl => ?_)
          refine lv_goto hx hb d_cPolicy_membersOf_29 (tgt := 4) (by decide) ?_
          exact ih4 v2_4 a26 H locs ls  hX hS (lv_sub hl [1, 2, 3, 0] rfl) h
        · rw [if_pos hc] at h
          refine lv_iload_n hx hb d_cPolicy_membersOf_17 rfl (lv_at hl 2 rfl) ?_
          refine lv_aload_n hx hb d_cPolicy_membersOf_18 rfl (lv_at hl 0 rfl) ?_
          refine c_get_7_5 (k := k0) hx hb hts hown hC hX hk0 (hts _ t_198) d_cPolicy_membersOf_19 ?_
          refine lv_iload_n hx hb d_cPolicy_membersOf_22 rfl (lv_at hl 3 rfl) ?_
          by_cases hg23 : inbd v3_4 4 = true
          rotate_left; · rw [if_neg hg23] at h; cases h
          rw [if_pos hg23] at h
          refine c_ald_11 (k := (k0 + 10)) hx hb hC hX (kx_7_10 hk0) hg23 d_cPolicy_membersOf_23 ?_
          refine lv_ior hx hb d_cPolicy_membersOf_24 ?_
          obtain ⟨a25, e25, h⟩ := bd_some h
          refine lt_I e25 ?_
          refine lv_istore_n (lv' := [(2, .int a25), (0, .ref (b + k0)), (1, .int x1), (3, .int v3_4)]) hx hb d_cPolicy_membersOf_25 rfl hl (by decide) rfl (fun ls hl => ?_)
          obtain ⟨a26, e26, h⟩ := bd_some h
          refine lv_iinc (v := a26) (lv' := [(3, .int a26), (2, .int a25), (0, .ref (b + k0)), (1, .int x1)]) hx hb d_cPolicy_membersOf_26 hl (k := 3) rfl e26.symm (by decide) rfl (fun ls hl => ?_)
          refine lv_goto hx hb d_cPolicy_membersOf_29 (tgt := 4) (by decide) ?_
          exact ih4 a25 a26 H locs ls  hX hS (lv_sub hl [2, 3, 1, 0] rfl) h
  exact L4 600 0 0 H locs ls  hX hS (lv_sub hl [2, 3, 1, 0] rfl) h
abbrev y_cPolicy_typesOf : MethodName := ({ cls := "TypeGuard$Policy", name := "typesOf", desc := "(LTypeGuard$TypeSet;)I" } : Jvm.MethodName)
theorem d_cPolicy_typesOf_0 : decode prog_6_method_12_code 0 = .ok (.aload_n 0, 1) := by decide +kernel
theorem d_cPolicy_typesOf_1 : decode prog_6_method_12_code 1 = .ok (.getfield 14, 3) := by decide +kernel
theorem d_cPolicy_typesOf_4 : decode prog_6_method_12_code 4 = .ok (.invokevirtual 133, 3) := by decide +kernel
theorem d_cPolicy_typesOf_7 : decode prog_6_method_12_code 7 = .ok (.istore_n 2, 1) := by decide +kernel
theorem d_cPolicy_typesOf_8 : decode prog_6_method_12_code 8 = .ok (.iload_n 2, 1) := by decide +kernel
theorem d_cPolicy_typesOf_9 : decode prog_6_method_12_code 9 = .ok (.istore_n 3, 1) := by decide +kernel
theorem d_cPolicy_typesOf_10 : decode prog_6_method_12_code 10 = .ok (.aload_n 1, 1) := by decide +kernel
theorem d_cPolicy_typesOf_11 : decode prog_6_method_12_code 11 = .ok (.getfield 137, 3) := by decide +kernel
theorem d_cPolicy_typesOf_14 : decode prog_6_method_12_code 14 = .ok (.ifCond .ne 41, 3) := by decide +kernel
theorem d_cPolicy_typesOf_17 : decode prog_6_method_12_code 17 = .ok (.aload_n 1, 1) := by decide +kernel
theorem d_cPolicy_typesOf_18 : decode prog_6_method_12_code 18 = .ok (.getfield 142, 3) := by decide +kernel
theorem d_cPolicy_typesOf_21 : decode prog_6_method_12_code 21 = .ok (.aload_n 0, 1) := by decide +kernel
theorem d_cPolicy_typesOf_22 : decode prog_6_method_12_code 22 = .ok (.aload_n 1, 1) := by decide +kernel
theorem d_cPolicy_typesOf_23 : decode prog_6_method_12_code 23 = .ok (.getfield 145, 3) := by decide +kernel
theorem d_cPolicy_typesOf_26 : decode prog_6_method_12_code 26 = .ok (.invokevirtual 148, 3) := by decide +kernel
theorem d_cPolicy_typesOf_29 : decode prog_6_method_12_code 29 = .ok (.ior, 1) := by decide +kernel
theorem d_cPolicy_typesOf_30 : decode prog_6_method_12_code 30 = .ok (.istore 4, 2) := by decide +kernel
theorem d_cPolicy_typesOf_32 : decode prog_6_method_12_code 32 = .ok (.aload_n 1, 1) := by decide +kernel
theorem d_cPolicy_typesOf_33 : decode prog_6_method_12_code 33 = .ok (.getfield 152, 3) := by decide +kernel
theorem d_cPolicy_typesOf_36 : decode prog_6_method_12_code 36 = .ok (.aload_n 0, 1) := by decide +kernel
theorem d_cPolicy_typesOf_37 : decode prog_6_method_12_code 37 = .ok (.aload_n 1, 1) := by decide +kernel
theorem d_cPolicy_typesOf_38 : decode prog_6_method_12_code 38 = .ok (.getfield 155, 3) := by decide +kernel
theorem d_cPolicy_typesOf_41 : decode prog_6_method_12_code 41 = .ok (.invokevirtual 148, 3) := by decide +kernel
theorem d_cPolicy_typesOf_44 : decode prog_6_method_12_code 44 = .ok (.ior, 1) := by decide +kernel
theorem d_cPolicy_typesOf_45 : decode prog_6_method_12_code 45 = .ok (.istore 5, 2) := by decide +kernel
theorem d_cPolicy_typesOf_47 : decode prog_6_method_12_code 47 = .ok (.iload 4, 2) := by decide +kernel
theorem d_cPolicy_typesOf_49 : decode prog_6_method_12_code 49 = .ok (.iload 5, 2) := by decide +kernel
theorem d_cPolicy_typesOf_51 : decode prog_6_method_12_code 51 = .ok (.iconst (-1), 1) := by decide +kernel
theorem d_cPolicy_typesOf_52 : decode prog_6_method_12_code 52 = .ok (.ixor, 1) := by decide +kernel
theorem d_cPolicy_typesOf_53 : decode prog_6_method_12_code 53 = .ok (.iand, 1) := by decide +kernel
theorem d_cPolicy_typesOf_54 : decode prog_6_method_12_code 54 = .ok (.istore_n 3, 1) := by decide +kernel
theorem d_cPolicy_typesOf_55 : decode prog_6_method_12_code 55 = .ok (.aload_n 1, 1) := by decide +kernel
theorem d_cPolicy_typesOf_56 : decode prog_6_method_12_code 56 = .ok (.getfield 158, 3) := by decide +kernel
theorem d_cPolicy_typesOf_59 : decode prog_6_method_12_code 59 = .ok (.ifCond .eq 11, 3) := by decide +kernel
theorem d_cPolicy_typesOf_62 : decode prog_6_method_12_code 62 = .ok (.iload_n 2, 1) := by decide +kernel
theorem d_cPolicy_typesOf_63 : decode prog_6_method_12_code 63 = .ok (.iload_n 3, 1) := by decide +kernel
theorem d_cPolicy_typesOf_64 : decode prog_6_method_12_code 64 = .ok (.iconst (-1), 1) := by decide +kernel
theorem d_cPolicy_typesOf_65 : decode prog_6_method_12_code 65 = .ok (.ixor, 1) := by decide +kernel
theorem d_cPolicy_typesOf_66 : decode prog_6_method_12_code 66 = .ok (.iand, 1) := by decide +kernel
theorem d_cPolicy_typesOf_67 : decode prog_6_method_12_code 67 = .ok (.goto 4, 3) := by decide +kernel
theorem d_cPolicy_typesOf_70 : decode prog_6_method_12_code 70 = .ok (.iload_n 3, 1) := by decide +kernel
theorem d_cPolicy_typesOf_71 : decode prog_6_method_12_code 71 = .ok (.ireturn, 1) := by decide +kernel
def cPolicy_typesOf_J55 (v1_55 : Nat) (v2_55 : Int32) (v3_55 : Int32) (S_55 : CS) : Option Int32 := (if (gB S_55 v1_55 0) = true then some (v2_55 &&& (v3_55 ^^^ (-1))) else some v3_55)
def cPolicy_typesOf (k0 : Nat) (x1 : Nat) (S : CS) : Option Int32 := ((cNames_allBits (k0 + 1) S).bind fun q4 => (if (gB S x1 1) = true then cPolicy_typesOf_J55 x1 q4 q4 S else ((cPolicy_membersOf k0 (gI S x1 3) S).bind fun q26 => (bd (((gI S x1 2) ||| q26)) fun a30 => ((cPolicy_membersOf k0 (gI S x1 5) S).bind fun q41 => (bd (((gI S x1 4) ||| q41)) fun a45 => (bd ((a30 &&& (a45 ^^^ (-1)))) fun a54 => cPolicy_typesOf_J55 x1 q4 a54 S)))))))
set_option maxHeartbeats 4000000 in
set_option maxRecDepth 100000 in
theorem M_cPolicy_typesOf {l : Launch} {D : va_G} {cA : Nat → ClassId} {b : Nat} {ad : Nat → Nat} {k0 : Nat} {x1 : Nat} {S : CS} {T : MS × (Nat → Int64)} {rr : Int32} (hk0 : kd k0 = 7) (hk1 : kd x1 = 15) (h : cPolicy_typesOf k0 x1 S = some rr) : Met l y_cPolicy_typesOf (Cond.code y_cPolicy_typesOf prog_6_method_12_code 6 (Option.some Jvm.ClassFile.FieldType.int) :: TW) { frames := 2, cells := 0, slots := 0, locals := 44 } (va_Pc [.ref (b + k0), .ref (b + x1)] (Rp D cA b ad (S, T))) (Qr D cA b ad (S, T) (some (.int rr))) 0 0 (Ab b) := by
  refine Ct_of (by decide) (Nat.le_of_ble_eq_true rfl) ?_
  intro p e R s m args below meth c ls Q H locs hR hQ hx hb hts hown hml hr hlk hC hX hS hl
  have hRf : R.frames = 2 := by rw [hR]
  have hRl : R.locals = 44 := by rw [hR]
  have hown : s.vm.findClass "TypeGuard$Policy" = some m.cls := hown
  have hl : lv_has ls 6 [(0, .ref (b + k0)), (1, .ref (b + x1))] := hl
  rw [cPolicy_typesOf] at h
  refine lv_aload_n hx hb d_cPolicy_typesOf_0 rfl (lv_at hl 0 rfl) ?_
  refine c_get_7_0 (k := k0) hx hb hts hown hC hX hk0 (hts _ t_185) d_cPolicy_typesOf_1 ?_
  obtain ⟨q4, hc4, h⟩ := Option.bind_eq_some_iff.mp h
  refine ck_V (As := []) (rest := []) (st1 := [.int q4]) (M_cNames_allBits (kx_7_1 hk0) hc4) t_721 t_658 t_659 t_660 t_5 hx hb hts hown hC hX hS (hrc_c8 hC hX (kx_7_1 hk0)) hml hl.1 ⟨by rw [hRf]; decide, by rw [hRl]; decide⟩ ⟨rfl, rfl⟩ (n := 0) (by decide +kernel) rfl rfl rfl (lv_room (Nat.le_of_ble_eq_true rfl)) d_cPolicy_typesOf_4 (fun H locs hX hS => ?_)
  refine lv_istore_n (lv' := [(2, .int q4), (0, .ref (b + k0)), (1, .ref (b + x1))]) hx hb d_cPolicy_typesOf_7 rfl hl (by decide) rfl (fun ls hl => ?_)
  refine lv_iload_n hx hb d_cPolicy_typesOf_8 rfl (lv_at hl 0 rfl) ?_
  refine lv_istore_n (lv' := [(3, .int q4), (2, .int q4), (0, .ref (b + k0)), (1, .ref (b + x1))]) hx hb d_cPolicy_typesOf_9 rfl hl (by decide) rfl (fun ls hl => ?_)
  refine lv_aload_n hx hb d_cPolicy_typesOf_10 rfl (lv_at hl 3 rfl) ?_
  refine c_get_15_1N (k := x1) hx hb hts hown hC hX hk1 (va_Nw.use rfl (hC.2.1 _ t_106)) d_cPolicy_typesOf_11 ?_
  have J55 : ∀ (v3_55 : Int32) (H : Heap) (locs : List Loc) (ls : Array Slot), hp D cA b ad (S, T) H → va_S (Ab b) s.heap H locs → lv_has ls 6 [(1, .ref (b + x1)), (2, .int q4), (3, .int v3_55)] → cPolicy_typesOf_J55 x1 q4 v3_55 S = some rr → W p l e R s m args below meth c H locs 0 0 Q (F0 m 55 ls []) := by
    intro v3_55 H locs ls  hX hS hl h
    rw [cPolicy_typesOf_J55] at h
    refine lv_aload_n hx hb d_cPolicy_typesOf_55 rfl (lv_at hl 0 rfl) ?_
    refine c_get_15_0N (k := x1) hx hb hts hown hC hX hk1 (va_Nw.use rfl (hC.2.1 _ t_104)) d_cPolicy_typesOf_56 ?_
    refine lz_ifeq hx hb d_cPolicy_typesOf_59 (tgt := 70) (by decide) (fun hc => ?_) (fun hc => ?_)
    · rw [if_neg hc] at h
      refine lv_iload_n hx hb d_cPolicy_typesOf_70 rfl (lv_at hl 2 rfl) ?_
      obtain rfl := Option.some.inj h
      exact rt_i hQ hx hb hr hX hS hlk d_cPolicy_typesOf_71
    · rw [if_pos hc] at h
      refine lv_iload_n hx hb d_cPolicy_typesOf_62 rfl (lv_at hl 1 rfl) ?_
      refine lv_iload_n hx hb d_cPolicy_typesOf_63 rfl (lv_at hl 2 rfl) ?_
      refine lv_iconst (v := (-1)) hx hb d_cPolicy_typesOf_64 (by decide) ?_
      refine lv_ixor hx hb d_cPolicy_typesOf_65 ?_
      refine lv_iand hx hb d_cPolicy_typesOf_66 ?_
      refine lv_goto hx hb d_cPolicy_typesOf_67 (tgt := 71) (by decide) ?_
      obtain rfl := Option.some.inj h
      exact rt_i hQ hx hb hr hX hS hlk d_cPolicy_typesOf_71
  refine lz_ifne hx hb d_cPolicy_typesOf_14 (tgt := 55) (by decide) (fun hc => ?_) (fun hc => ?_)
  · rw [if_pos hc] at h
    exact J55 q4 H locs ls  hX hS (lv_sub hl [3, 1, 0] rfl) h
  · rw [if_neg hc] at h
    refine lv_aload_n hx hb d_cPolicy_typesOf_17 rfl (lv_at hl 3 rfl) ?_
    refine c_get_15_2N (k := x1) hx hb hts hown hC hX hk1 (va_Nw.use rfl (hC.2.1 _ t_109)) d_cPolicy_typesOf_18 ?_
    refine lv_aload_n hx hb d_cPolicy_typesOf_21 rfl (lv_at hl 2 rfl) ?_
    refine lv_aload_n hx hb d_cPolicy_typesOf_22 rfl (lv_at hl 3 rfl) ?_
    refine c_get_15_3N (k := x1) hx hb hts hown hC hX hk1 (va_Nw.use rfl (hC.2.1 _ t_111)) d_cPolicy_typesOf_23 ?_
    obtain ⟨q26, hc26, h⟩ := Option.bind_eq_some_iff.mp h
    refine ck_V (As := [.int (gI S x1 3)]) (rest := [.int (gI S x1 2)]) (st1 := [.int q26, .int (gI S x1 2)]) (M_cPolicy_membersOf hk0 hc26) t_722 t_724 p_26 t_725 t_4 hx hb hts hown hC hX hS (hrc_c7 hC hX hk0) hml hl.1 ⟨by rw [hRf]; decide, by rw [hRl]; decide⟩ ⟨rfl, rfl⟩ (n := 1) (by decide +kernel) rfl rfl rfl (lv_room (Nat.le_of_ble_eq_true rfl)) d_cPolicy_typesOf_26 (fun H locs hX hS => ?_)
    refine lv_ior hx hb d_cPolicy_typesOf_29 ?_
    obtain ⟨a30, e30, h⟩ := bd_some h
    refine lt_I e30 ?_
    refine lv_istore (lv' := [(4, .int a30), (3, .int q4), (2, .int q4), (0, .ref (b + k0)), (1, .ref (b + x1))]) hx hb d_cPolicy_typesOf_30 hl (by decide) rfl (fun ls hl => ?_)
    refine lv_aload_n hx hb d_cPolicy_typesOf_32 rfl (lv_at hl 4 rfl) ?_
    refine c_get_15_4N (k := x1) hx hb hts hown hC hX hk1 (va_Nw.use rfl (hC.2.1 _ t_113)) d_cPolicy_typesOf_33 ?_
    refine lv_aload_n hx hb d_cPolicy_typesOf_36 rfl (lv_at hl 3 rfl) ?_
    refine lv_aload_n hx hb d_cPolicy_typesOf_37 rfl (lv_at hl 4 rfl) ?_
    refine c_get_15_5N (k := x1) hx hb hts hown hC hX hk1 (va_Nw.use rfl (hC.2.1 _ t_115)) d_cPolicy_typesOf_38 ?_
    obtain ⟨q41, hc41, h⟩ := Option.bind_eq_some_iff.mp h
    refine ck_V (As := [.int (gI S x1 5)]) (rest := [.int (gI S x1 4)]) (st1 := [.int q41, .int (gI S x1 4)]) (M_cPolicy_membersOf hk0 hc41) t_722 t_724 p_26 t_725 t_4 hx hb hts hown hC hX hS (hrc_c7 hC hX hk0) hml hl.1 ⟨by rw [hRf]; decide, by rw [hRl]; decide⟩ ⟨rfl, rfl⟩ (n := 1) (by decide +kernel) rfl rfl rfl (lv_room (Nat.le_of_ble_eq_true rfl)) d_cPolicy_typesOf_41 (fun H locs hX hS => ?_)
    refine lv_ior hx hb d_cPolicy_typesOf_44 ?_
    obtain ⟨a45, e45, h⟩ := bd_some h
    refine lt_I e45 ?_
    refine lv_istore (lv' := [(5, .int a45), (4, .int a30), (3, .int q4), (2, .int q4), (0, .ref (b + k0)), (1, .ref (b + x1))]) hx hb d_cPolicy_typesOf_45 hl (by decide) rfl (fun ls hl => ?_)
    refine lv_iload hx hb d_cPolicy_typesOf_47 (lv_at hl 1 rfl) ?_
    refine lv_iload hx hb d_cPolicy_typesOf_49 (lv_at hl 0 rfl) ?_
    refine lv_iconst (v := (-1)) hx hb d_cPolicy_typesOf_51 (by decide) ?_
    refine lv_ixor hx hb d_cPolicy_typesOf_52 ?_
    refine lv_iand hx hb d_cPolicy_typesOf_53 ?_
    obtain ⟨a54, e54, h⟩ := bd_some h
    refine lt_I e54 ?_
    refine lv_istore_n (lv' := [(3, .int a54), (5, .int a45), (4, .int a30), (2, .int q4), (0, .ref (b + k0)), (1, .ref (b + x1))]) hx hb d_cPolicy_typesOf_54 rfl hl (by decide) rfl (fun ls hl => ?_)
    exact J55 a54 H locs ls  hX hS (lv_sub hl [5, 3, 0] rfl) h
abbrev y_cPolicy_settleSets : MethodName := ({ cls := "TypeGuard$Policy", name := "settleSets", desc := "()V" } : Jvm.MethodName)
theorem d_cPolicy_settleSets_0 : decode prog_6_method_7_code 0 = .ok (.iconst 0, 1) := by decide +kernel
theorem d_cPolicy_settleSets_1 : decode prog_6_method_7_code 1 = .ok (.istore_n 1, 1) := by decide +kernel
theorem d_cPolicy_settleSets_2 : decode prog_6_method_7_code 2 = .ok (.iload_n 1, 1) := by decide +kernel
theorem d_cPolicy_settleSets_3 : decode prog_6_method_7_code 3 = .ok (.aload_n 0, 1) := by decide +kernel
theorem d_cPolicy_settleSets_4 : decode prog_6_method_7_code 4 = .ok (.getfield 52, 3) := by decide +kernel
theorem d_cPolicy_settleSets_7 : decode prog_6_method_7_code 7 = .ok (.if_icmp .ge 53, 3) := by decide +kernel
theorem d_cPolicy_settleSets_10 : decode prog_6_method_7_code 10 = .ok (.aload_n 0, 1) := by decide +kernel
theorem d_cPolicy_settleSets_11 : decode prog_6_method_7_code 11 = .ok (.getfield 43, 3) := by decide +kernel
theorem d_cPolicy_settleSets_14 : decode prog_6_method_7_code 14 = .ok (.iload_n 1, 1) := by decide +kernel
theorem d_cPolicy_settleSets_15 : decode prog_6_method_7_code 15 = .ok (.aaload, 1) := by decide +kernel
theorem d_cPolicy_settleSets_16 : decode prog_6_method_7_code 16 = .ok (.aload_n 0, 1) := by decide +kernel
theorem d_cPolicy_settleSets_17 : decode prog_6_method_7_code 17 = .ok (.aload_n 0, 1) := by decide +kernel
theorem d_cPolicy_settleSets_18 : decode prog_6_method_7_code 18 = .ok (.getfield 43, 3) := by decide +kernel
theorem d_cPolicy_settleSets_21 : decode prog_6_method_7_code 21 = .ok (.iload_n 1, 1) := by decide +kernel
theorem d_cPolicy_settleSets_22 : decode prog_6_method_7_code 22 = .ok (.aaload, 1) := by decide +kernel
theorem d_cPolicy_settleSets_23 : decode prog_6_method_7_code 23 = .ok (.getfield 89, 3) := by decide +kernel
theorem d_cPolicy_settleSets_26 : decode prog_6_method_7_code 26 = .ok (.invokevirtual 93, 3) := by decide +kernel
theorem d_cPolicy_settleSets_29 : decode prog_6_method_7_code 29 = .ok (.putfield 97, 3) := by decide +kernel
theorem d_cPolicy_settleSets_32 : decode prog_6_method_7_code 32 = .ok (.aload_n 0, 1) := by decide +kernel
theorem d_cPolicy_settleSets_33 : decode prog_6_method_7_code 33 = .ok (.getfield 43, 3) := by decide +kernel
theorem d_cPolicy_settleSets_36 : decode prog_6_method_7_code 36 = .ok (.iload_n 1, 1) := by decide +kernel
theorem d_cPolicy_settleSets_37 : decode prog_6_method_7_code 37 = .ok (.aaload, 1) := by decide +kernel
theorem d_cPolicy_settleSets_38 : decode prog_6_method_7_code 38 = .ok (.aload_n 0, 1) := by decide +kernel
theorem d_cPolicy_settleSets_39 : decode prog_6_method_7_code 39 = .ok (.aload_n 0, 1) := by decide +kernel
theorem d_cPolicy_settleSets_40 : decode prog_6_method_7_code 40 = .ok (.getfield 43, 3) := by decide +kernel
theorem d_cPolicy_settleSets_43 : decode prog_6_method_7_code 43 = .ok (.iload_n 1, 1) := by decide +kernel
theorem d_cPolicy_settleSets_44 : decode prog_6_method_7_code 44 = .ok (.aaload, 1) := by decide +kernel
theorem d_cPolicy_settleSets_45 : decode prog_6_method_7_code 45 = .ok (.getfield 100, 3) := by decide +kernel
theorem d_cPolicy_settleSets_48 : decode prog_6_method_7_code 48 = .ok (.invokevirtual 93, 3) := by decide +kernel
theorem d_cPolicy_settleSets_51 : decode prog_6_method_7_code 51 = .ok (.putfield 103, 3) := by decide +kernel
theorem d_cPolicy_settleSets_54 : decode prog_6_method_7_code 54 = .ok (.iinc 1 1, 3) := by decide +kernel
theorem d_cPolicy_settleSets_57 : decode prog_6_method_7_code 57 = .ok (.goto (-55), 3) := by decide +kernel
theorem d_cPolicy_settleSets_60 : decode prog_6_method_7_code 60 = .ok (.return_, 1) := by decide +kernel
def cPolicy_settleSets_L2 (v0_2 : Nat) : Nat → Int32 → CS → Option CS
  | 0, _, _ => none
  | n + 1, v1_2, S_2 => (if (gI S_2 v0_2 8) ≤ v1_2 then some S_2 else (if inbd v1_2 24 = true then (bd (((v0_2 + 12) + (9 + 4 * txN v1_2))) fun a15 => (if inbd v1_2 24 = true then (bd (((v0_2 + 12) + (9 + 4 * txN v1_2))) fun a22 => ((cPolicy_typesOf v0_2 (a22 + 1) S_2).bind fun q26 => (bd (pI S_2 a15 7 q26) fun S29 => (if inbd v1_2 24 = true then (bd (((v0_2 + 12) + (9 + 4 * txN v1_2))) fun a37 => (if inbd v1_2 24 = true then (bd (((v0_2 + 12) + (9 + 4 * txN v1_2))) fun a44 => ((cPolicy_typesOf v0_2 (a44 + 2) S29).bind fun q48 => (bd (pI S29 a37 8 q48) fun S51 => (bd ((v1_2 + 1)) fun a54 => (cPolicy_settleSets_L2 v0_2 n) a54 S51)))) else none)) else none)))) else none)) else none))
def cPolicy_settleSets (k0 : Nat) (S : CS) : Option CS := cPolicy_settleSets_L2 k0 600 0 S
set_option maxHeartbeats 4000000 in
set_option maxRecDepth 100000 in
theorem M_cPolicy_settleSets {l : Launch} {D : va_G} {cA : Nat → ClassId} {b : Nat} {ad : Nat → Nat} {k0 : Nat} {S : CS} {T : MS × (Nat → Int64)} {rr : CS} (hk0 : kd k0 = 7) (h : cPolicy_settleSets k0 S = some rr) : Met l y_cPolicy_settleSets (Cond.code y_cPolicy_settleSets prog_6_method_7_code 2 (Option.none : Option Jvm.ClassFile.FieldType) :: TW) { frames := 3, cells := 0, slots := 0, locals := 69 } (va_Pc [.ref (b + k0)] (Rp D cA b ad (S, T))) (Qr D cA b ad (rr, T) none) 0 0 (Ab b) := by
  refine Ct_of (by decide) (Nat.le_of_ble_eq_true rfl) ?_
  intro p e R s m args below meth c ls Q H locs hR hQ hx hb hts hown hml hr hlk hC hX hS hl
  have hRf : R.frames = 3 := by rw [hR]
  have hRl : R.locals = 69 := by rw [hR]
  have hown : s.vm.findClass "TypeGuard$Policy" = some m.cls := hown
  have hl : lv_has ls 2 [(0, .ref (b + k0))] := hl
  rw [cPolicy_settleSets] at h
  refine lv_iconst (v := 0) hx hb d_cPolicy_settleSets_0 (by decide) ?_
  refine lv_istore_n (lv' := [(1, .int 0), (0, .ref (b + k0))]) hx hb d_cPolicy_settleSets_1 rfl hl (by decide) rfl (fun ls hl => ?_)
  have L2 : ∀ (n2 : Nat) (v1_2 : Int32) (S_2 : CS) (H : Heap) (locs : List Loc) (ls : Array Slot), hp D cA b ad (S_2, T) H → va_S (Ab b) s.heap H locs → lv_has ls 2 [(0, .ref (b + k0)), (1, .int v1_2)] → cPolicy_settleSets_L2 k0 n2 v1_2 S_2 = some rr → W p l e R s m args below meth c H locs 0 0 Q (F0 m 2 ls []) := by
    intro n2; induction n2 with
    | zero => intro v1_2 S_2 H locs ls  hX hS hl h; rw [cPolicy_settleSets_L2] at h; cases h
    | succ n2 ih2 =>
      intro v1_2 S_2 H locs ls  hX hS hl h
      rw [cPolicy_settleSets_L2] at h
      refine lv_iload_n hx hb d_cPolicy_settleSets_2 rfl (lv_at hl 1 rfl) ?_
      refine lv_aload_n hx hb d_cPolicy_settleSets_3 rfl (lv_at hl 0 rfl) ?_
      refine c_get_7_8 (k := k0) hx hb hts hown hC hX hk0 (hts _ t_205) d_cPolicy_settleSets_4 ?_
      refine lv_icmp_ge hx hb d_cPolicy_settleSets_7 (tgt := 60) (by decide) (fun hc => ?_) (fun hc => ?_)
      · rw [if_pos hc] at h
        obtain rfl := Option.some.inj h
        exact rt_v hQ hx hb hr hX hS hlk d_cPolicy_settleSets_60
      · rw [if_neg hc] at h
        refine lv_aload_n hx hb d_cPolicy_settleSets_10 rfl (lv_at hl 0 rfl) ?_
        refine c_get_7_7 (k := k0) hx hb hts hown hC hX hk0 (hts _ t_203) d_cPolicy_settleSets_11 ?_
        refine lv_iload_n hx hb d_cPolicy_settleSets_14 rfl (lv_at hl 1 rfl) ?_
        by_cases hg15 : inbd v1_2 24 = true
        rotate_left; · rw [if_neg hg15] at h; cases h
        rw [if_pos hg15] at h
        refine c_ald_13 (k := (k0 + 12)) hx hb hC hX (kx_7_12 hk0) hg15 d_cPolicy_settleSets_15 ?_
        obtain ⟨a15, e15, h⟩ := bd_some h
        refine lt_R e15 ?_
        have hka15 := (ke_13 (k := (k0 + 12)) (kx_7_12 hk0) (inbd_lt hg15))
        rw [← e15] at hka15
        refine lv_aload_n hx hb d_cPolicy_settleSets_16 rfl (lv_at hl 0 rfl) ?_
        refine lv_aload_n hx hb d_cPolicy_settleSets_17 rfl (lv_at hl 0 rfl) ?_
        refine c_get_7_7 (k := k0) hx hb hts hown hC hX hk0 (hts _ t_203) d_cPolicy_settleSets_18 ?_
        refine lv_iload_n hx hb d_cPolicy_settleSets_21 rfl (lv_at hl 1 rfl) ?_
        by_cases hg22 : inbd v1_2 24 = true
        rotate_left; · rw [if_neg hg22] at h; cases h
        rw [if_pos hg22] at h
        refine c_ald_13 (k := (k0 + 12)) hx hb hC hX (kx_7_12 hk0) hg22 d_cPolicy_settleSets_22 ?_
        obtain ⟨a22, e22, h⟩ := bd_some h
        refine lt_R e22 ?_
        have hka22 := (ke_13 (k := (k0 + 12)) (kx_7_12 hk0) (inbd_lt hg22))
        rw [← e22] at hka22
        refine c_get_14_4N (k := a22) hx hb hts hown hC hX hka22 (va_Nw.use rfl (hC.2.1 _ t_140)) d_cPolicy_settleSets_23 ?_
        obtain ⟨q26, hc26, h⟩ := Option.bind_eq_some_iff.mp h
        refine ck_V (As := [.ref (b + (a22 + 1))]) (rest := [.ref (b + a15)]) (st1 := [.int q26, .ref (b + a15)]) (M_cPolicy_typesOf hk0 (kx_14_1 hka22) hc26) t_717 t_719 p_25 t_720 t_4 hx hb hts hown hC hX hS (hrc_c7 hC hX hk0) hml hl.1 ⟨by rw [hRf]; decide, by rw [hRl]; decide⟩ ⟨rfl, rfl⟩ (n := 1) (by decide +kernel) rfl rfl rfl (lv_room (Nat.le_of_ble_eq_true rfl)) d_cPolicy_settleSets_26 (fun H locs hX hS => ?_)
        refine c_put_14_7N (k := a15) (v := q26) hx hb hts hown hC hX hS hka15 (va_Nw.use rfl (hC.2.1 _ t_148)) d_cPolicy_settleSets_29 (fun H locs hX hS => ?_)
        obtain ⟨S29, e29, h⟩ := bd_some h
        rw [← e29] at hX
        refine lv_aload_n hx hb d_cPolicy_settleSets_32 rfl (lv_at hl 0 rfl) ?_
        refine c_get_7_7 (k := k0) hx hb hts hown hC hX hk0 (hts _ t_203) d_cPolicy_settleSets_33 ?_
        refine lv_iload_n hx hb d_cPolicy_settleSets_36 rfl (lv_at hl 1 rfl) ?_
        by_cases hg37 : inbd v1_2 24 = true
        rotate_left; · rw [if_neg hg37] at h; cases h
        rw [if_pos hg37] at h
        refine c_ald_13 (k := (k0 + 12)) hx hb hC hX (kx_7_12 hk0) hg37 d_cPolicy_settleSets_37 ?_
        obtain ⟨a37, e37, h⟩ := bd_some h
        refine lt_R e37 ?_
        have hka37 := (ke_13 (k := (k0 + 12)) (kx_7_12 hk0) (inbd_lt hg37))
        rw [← e37] at hka37
        refine lv_aload_n hx hb d_cPolicy_settleSets_38 rfl (lv_at hl 0 rfl) ?_
        refine lv_aload_n hx hb d_cPolicy_settleSets_39 rfl (lv_at hl 0 rfl) ?_
        refine c_get_7_7 (k := k0) hx hb hts hown hC hX hk0 (hts _ t_203) d_cPolicy_settleSets_40 ?_
        refine lv_iload_n hx hb d_cPolicy_settleSets_43 rfl (lv_at hl 1 rfl) ?_
        by_cases hg44 : inbd v1_2 24 = true
        rotate_left; · rw [if_neg hg44] at h; cases h
        rw [if_pos hg44] at h
        refine c_ald_13 (k := (k0 + 12)) hx hb hC hX (kx_7_12 hk0) hg44 d_cPolicy_settleSets_44 ?_
        obtain ⟨a44, e44, h⟩ := bd_some h
        refine lt_R e44 ?_
        have hka44 := (ke_13 (k := (k0 + 12)) (kx_7_12 hk0) (inbd_lt hg44))
        rw [← e44] at hka44
        refine c_get_14_5N (k := a44) hx hb hts hown hC hX hka44 (va_Nw.use rfl (hC.2.1 _ t_143)) d_cPolicy_settleSets_45 ?_
        obtain ⟨q48, hc48, h⟩ := Option.bind_eq_some_iff.mp h
        refine ck_V (As := [.ref (b + (a44 + 2))]) (rest := [.ref (b + a37)]) (st1 := [.int q48, .ref (b + a37)]) (M_cPolicy_typesOf hk0 (kx_14_2 hka44) hc48) t_717 t_719 p_25 t_720 t_4 hx hb hts hown hC hX hS (hrc_c7 hC hX hk0) hml hl.1 ⟨by rw [hRf]; decide, by rw [hRl]; decide⟩ ⟨rfl, rfl⟩ (n := 1) (by decide +kernel) rfl rfl rfl (lv_room (Nat.le_of_ble_eq_true rfl)) d_cPolicy_settleSets_48 (fun H locs hX hS => ?_)
        refine c_put_14_8N (k := a37) (v := q48) hx hb hts hown hC hX hS hka37 (va_Nw.use rfl (hC.2.1 _ t_150)) d_cPolicy_settleSets_51 (fun H locs hX hS => ?_)
        obtain ⟨S51, e51, h⟩ := bd_some h
        rw [← e51] at hX
        obtain ⟨a54, e54, h⟩ := bd_some h
        refine lv_iinc (v := a54) (lv' := [(1, .int a54), (0, .ref (b + k0))]) hx hb d_cPolicy_settleSets_54 hl (k := 1) rfl e54.symm (by decide) rfl (fun ls hl => ?_)
        refine lv_goto hx hb d_cPolicy_settleSets_57 (tgt := 2) (by decide) ?_
        exact ih2 a54 S51 H locs ls  hX hS (lv_sub hl [1, 0] rfl) h
  exact L2 600 0 S H locs ls  hX hS (lv_sub hl [1, 0] rfl) h
abbrev y_cPolicy_isDisputed : MethodName := ({ cls := "TypeGuard$Policy", name := "isDisputed", desc := "(LTypeGuard$Rule;)Z" } : Jvm.MethodName)
theorem d_cPolicy_isDisputed_0 : decode prog_6_method_9_code 0 = .ok (.iconst 0, 1) := by decide +kernel
theorem d_cPolicy_isDisputed_1 : decode prog_6_method_9_code 1 = .ok (.istore_n 2, 1) := by decide +kernel
theorem d_cPolicy_isDisputed_2 : decode prog_6_method_9_code 2 = .ok (.iload_n 2, 1) := by decide +kernel
theorem d_cPolicy_isDisputed_3 : decode prog_6_method_9_code 3 = .ok (.aload_n 0, 1) := by decide +kernel
theorem d_cPolicy_isDisputed_4 : decode prog_6_method_9_code 4 = .ok (.getfield 52, 3) := by decide +kernel
theorem d_cPolicy_isDisputed_7 : decode prog_6_method_9_code 7 = .ok (.if_icmp .ge 70, 3) := by decide +kernel
theorem d_cPolicy_isDisputed_10 : decode prog_6_method_9_code 10 = .ok (.aload_n 0, 1) := by decide +kernel
theorem d_cPolicy_isDisputed_11 : decode prog_6_method_9_code 11 = .ok (.getfield 43, 3) := by decide +kernel
theorem d_cPolicy_isDisputed_14 : decode prog_6_method_9_code 14 = .ok (.iload_n 2, 1) := by decide +kernel
theorem d_cPolicy_isDisputed_15 : decode prog_6_method_9_code 15 = .ok (.aaload, 1) := by decide +kernel
theorem d_cPolicy_isDisputed_16 : decode prog_6_method_9_code 16 = .ok (.astore_n 3, 1) := by decide +kernel
theorem d_cPolicy_isDisputed_17 : decode prog_6_method_9_code 17 = .ok (.aload_n 3, 1) := by decide +kernel
theorem d_cPolicy_isDisputed_18 : decode prog_6_method_9_code 18 = .ok (.getfield 59, 3) := by decide +kernel
theorem d_cPolicy_isDisputed_21 : decode prog_6_method_9_code 21 = .ok (.getstatic 79, 3) := by decide +kernel
theorem d_cPolicy_isDisputed_24 : decode prog_6_method_9_code 24 = .ok (.if_acmp .ne 47, 3) := by decide +kernel
theorem d_cPolicy_isDisputed_27 : decode prog_6_method_9_code 27 = .ok (.aload_n 3, 1) := by decide +kernel
theorem d_cPolicy_isDisputed_28 : decode prog_6_method_9_code 28 = .ok (.getfield 76, 3) := by decide +kernel
theorem d_cPolicy_isDisputed_31 : decode prog_6_method_9_code 31 = .ok (.aload_n 1, 1) := by decide +kernel
theorem d_cPolicy_isDisputed_32 : decode prog_6_method_9_code 32 = .ok (.getfield 76, 3) := by decide +kernel
theorem d_cPolicy_isDisputed_35 : decode prog_6_method_9_code 35 = .ok (.if_icmp .ge 36, 3) := by decide +kernel
theorem d_cPolicy_isDisputed_38 : decode prog_6_method_9_code 38 = .ok (.aload_n 3, 1) := by decide +kernel
theorem d_cPolicy_isDisputed_39 : decode prog_6_method_9_code 39 = .ok (.getfield 86, 3) := by decide +kernel
theorem d_cPolicy_isDisputed_42 : decode prog_6_method_9_code 42 = .ok (.aload_n 1, 1) := by decide +kernel
theorem d_cPolicy_isDisputed_43 : decode prog_6_method_9_code 43 = .ok (.getfield 86, 3) := by decide +kernel
theorem d_cPolicy_isDisputed_46 : decode prog_6_method_9_code 46 = .ok (.if_icmp .eq 25, 3) := by decide +kernel
theorem d_cPolicy_isDisputed_49 : decode prog_6_method_9_code 49 = .ok (.aload_n 3, 1) := by decide +kernel
theorem d_cPolicy_isDisputed_50 : decode prog_6_method_9_code 50 = .ok (.getfield 116, 3) := by decide +kernel
theorem d_cPolicy_isDisputed_53 : decode prog_6_method_9_code 53 = .ok (.aload_n 1, 1) := by decide +kernel
theorem d_cPolicy_isDisputed_54 : decode prog_6_method_9_code 54 = .ok (.getfield 116, 3) := by decide +kernel
theorem d_cPolicy_isDisputed_57 : decode prog_6_method_9_code 57 = .ok (.iand, 1) := by decide +kernel
theorem d_cPolicy_isDisputed_58 : decode prog_6_method_9_code 58 = .ok (.ifCond .eq 13, 3) := by decide +kernel
theorem d_cPolicy_isDisputed_61 : decode prog_6_method_9_code 61 = .ok (.aload_n 3, 1) := by decide +kernel
theorem d_cPolicy_isDisputed_62 : decode prog_6_method_9_code 62 = .ok (.aload_n 1, 1) := by decide +kernel
theorem d_cPolicy_isDisputed_63 : decode prog_6_method_9_code 63 = .ok (.invokevirtual 118, 3) := by decide +kernel
theorem d_cPolicy_isDisputed_66 : decode prog_6_method_9_code 66 = .ok (.ifCond .eq 5, 3) := by decide +kernel
theorem d_cPolicy_isDisputed_69 : decode prog_6_method_9_code 69 = .ok (.iconst 1, 1) := by decide +kernel
theorem d_cPolicy_isDisputed_70 : decode prog_6_method_9_code 70 = .ok (.ireturn, 1) := by decide +kernel
theorem d_cPolicy_isDisputed_71 : decode prog_6_method_9_code 71 = .ok (.iinc 2 1, 3) := by decide +kernel
theorem d_cPolicy_isDisputed_74 : decode prog_6_method_9_code 74 = .ok (.goto (-72), 3) := by decide +kernel
theorem d_cPolicy_isDisputed_77 : decode prog_6_method_9_code 77 = .ok (.iconst 0, 1) := by decide +kernel
theorem d_cPolicy_isDisputed_78 : decode prog_6_method_9_code 78 = .ok (.ireturn, 1) := by decide +kernel
def cPolicy_isDisputed_L2 (v0_2 : Nat) (v1_2 : Nat) (S_2 : CS) : Nat → Int32 → Option Bool
  | 0, _ => none
  | n + 1, v2_2 => (if (gI S_2 v0_2 8) ≤ v2_2 then some false else (if inbd v2_2 24 = true then (bd (((v0_2 + 12) + (9 + 4 * txN v2_2))) fun a15 => (bd (gR S_2 a15 0) fun r18 => (if r18 < 15 then (if r18 = 9 then (if (gI S_2 v1_2 1) ≤ (gI S_2 a15 1) then (bd ((v2_2 + 1)) fun a71 => (cPolicy_isDisputed_L2 v0_2 v1_2 S_2 n) a71) else (if (gI S_2 a15 11) = (gI S_2 v1_2 11) then (bd ((v2_2 + 1)) fun a71 => (cPolicy_isDisputed_L2 v0_2 v1_2 S_2 n) a71) else (if ((gI S_2 a15 9) &&& (gI S_2 v1_2 9)) = 0 then (bd ((v2_2 + 1)) fun a71 => (cPolicy_isDisputed_L2 v0_2 v1_2 S_2 n) a71) else ((cRule_sharesTypesWith a15 v1_2 S_2).bind fun q63 => (if q63 = true then some true else (bd ((v2_2 + 1)) fun a71 => (cPolicy_isDisputed_L2 v0_2 v1_2 S_2 n) a71)))))) else (bd ((v2_2 + 1)) fun a71 => (cPolicy_isDisputed_L2 v0_2 v1_2 S_2 n) a71)) else none))) else none))
def cPolicy_isDisputed (k0 : Nat) (x1 : Nat) (S : CS) : Option Bool := cPolicy_isDisputed_L2 k0 x1 S 600 0
set_option maxHeartbeats 4000000 in
set_option maxRecDepth 100000 in
theorem M_cPolicy_isDisputed {l : Launch} {D : va_G} {cA : Nat → ClassId} {b : Nat} {ad : Nat → Nat} {k0 : Nat} {x1 : Nat} {S : CS} {T : MS × (Nat → Int64)} {rr : Bool} (hk0 : kd k0 = 7) (hk1 : kd x1 = 14) (h : cPolicy_isDisputed k0 x1 S = some rr) : Met l y_cPolicy_isDisputed (Cond.code y_cPolicy_isDisputed prog_6_method_9_code 4 (Option.some Jvm.ClassFile.FieldType.boolean) :: TW) { frames := 2, cells := 0, slots := 0, locals := 43 } (va_Pc [.ref (b + k0), .ref (b + x1)] (Rp D cA b ad (S, T))) (Qr D cA b ad (S, T) (some (.int (bI rr)))) 0 0 (Ab b) := by
  refine Ct_of (by decide) (Nat.le_of_ble_eq_true rfl) ?_
  intro p e R s m args below meth c ls Q H locs hR hQ hx hb hts hown hml hr hlk hC hX hS hl
  have hRf : R.frames = 2 := by rw [hR]
  have hRl : R.locals = 43 := by rw [hR]
  have hown : s.vm.findClass "TypeGuard$Policy" = some m.cls := hown
  have hl : lv_has ls 4 [(0, .ref (b + k0)), (1, .ref (b + x1))] := hl
  rw [cPolicy_isDisputed] at h
  refine lv_iconst (v := 0) hx hb d_cPolicy_isDisputed_0 (by decide) ?_
  refine lv_istore_n (lv' := [(2, .int 0), (0, .ref (b + k0)), (1, .ref (b + x1))]) hx hb d_cPolicy_isDisputed_1 rfl hl (by decide) rfl (fun ls hl => ?_)
  have L2 : ∀ (n2 : Nat) (v2_2 : Int32) (H : Heap) (locs : List Loc) (ls : Array Slot), hp D cA b ad (S, T) H → va_S (Ab b) s.heap H locs → lv_has ls 4 [(0, .ref (b + k0)), (1, .ref (b + x1)), (2, .int v2_2)] → cPolicy_isDisputed_L2 k0 x1 S n2 v2_2 = some rr → W p l e R s m args below meth c H locs 0 0 Q (F0 m 2 ls []) := by
    intro n2; induction n2 with
    | zero => intro v2_2 H locs ls  hX hS hl h; rw [cPolicy_isDisputed_L2] at h; cases h
    | succ n2 ih2 =>
      intro v2_2 H locs ls  hX hS hl h
      rw [cPolicy_isDisputed_L2] at h
      refine lv_iload_n hx hb d_cPolicy_isDisputed_2 rfl (lv_at hl 2 rfl) ?_
      refine lv_aload_n hx hb d_cPolicy_isDisputed_3 rfl (lv_at hl 0 rfl) ?_
      refine c_get_7_8 (k := k0) hx hb hts hown hC hX hk0 (hts _ t_205) d_cPolicy_isDisputed_4 ?_
      refine lv_icmp_ge hx hb d_cPolicy_isDisputed_7 (tgt := 77) (by decide) (fun hc => ?_) (fun hc => ?_)
      · rw [if_pos hc] at h
        refine lv_iconst (v := 0) hx hb d_cPolicy_isDisputed_77 (by decide) ?_
        obtain rfl := Option.some.inj h
        exact rt_zf hQ hx hb hr hX hS hlk d_cPolicy_isDisputed_78
      · rw [if_neg hc] at h
        refine lv_aload_n hx hb d_cPolicy_isDisputed_10 rfl (lv_at hl 0 rfl) ?_
        refine c_get_7_7 (k := k0) hx hb hts hown hC hX hk0 (hts _ t_203) d_cPolicy_isDisputed_11 ?_
        refine lv_iload_n hx hb d_cPolicy_isDisputed_14 rfl (lv_at hl 2 rfl) ?_
        by_cases hg15 : inbd v2_2 24 = true
        rotate_left; · rw [if_neg hg15] at h; cases h
        rw [if_pos hg15] at h
        refine c_ald_13 (k := (k0 + 12)) hx hb hC hX (kx_7_12 hk0) hg15 d_cPolicy_isDisputed_15 ?_
        obtain ⟨a15, e15, h⟩ := bd_some h
        refine lt_R e15 ?_
        have hka15 := (ke_13 (k := (k0 + 12)) (kx_7_12 hk0) (inbd_lt hg15))
        rw [← e15] at hka15
        refine lv_astore_n (lv' := [(3, .ref (b + a15)), (0, .ref (b + k0)), (1, .ref (b + x1)), (2, .int v2_2)]) hx hb d_cPolicy_isDisputed_16 rfl hl (by decide) rfl (fun ls hl => ?_)
        refine lv_aload_n hx hb d_cPolicy_isDisputed_17 rfl (lv_at hl 0 rfl) ?_
        refine c_get_14_0N (k := a15) hx hb hts hown hC hX hka15 (va_Nw.use rfl (hC.2.1 _ t_131)) d_cPolicy_isDisputed_18 ?_
        obtain ⟨r18, e18, h⟩ := bd_some h
        refine lt_W e18 ?_
        by_cases hkr18 : r18 < 15
        rotate_left; · rw [if_neg hkr18] at h; cases h
        rw [if_pos hkr18] at h
        refine st_W (i := 9) hx hb hC hS hown (hts _ t_735) d_cPolicy_isDisputed_21 (by decide) ?_
        refine lw_acmpne hx hb (hC.2.2.1) hkr18 (by decide) d_cPolicy_isDisputed_24 (tgt := 71) (by decide) (fun hc => ?_) (fun hc => ?_)
        · rw [if_neg hc] at h
          obtain ⟨a71, e71, h⟩ := bd_some h
          refine lv_iinc (v := a71) (lv' := [(2, .int a71), (3, .ref (b + a15)), (0, .ref (b + k0)), (1, .ref (b + x1))]) hx hb d_cPolicy_isDisputed_71 hl (k := 3) rfl e71.symm (by decide) rfl (fun ls hl => ?_)
          refine lv_goto hx hb d_cPolicy_isDisputed_74 (tgt := 2) (by decide) ?_
          exact ih2 a71 H locs ls  hX hS (lv_sub hl [2, 3, 0] rfl) h
        · rw [if_pos hc] at h
          refine lv_aload_n hx hb d_cPolicy_isDisputed_27 rfl (lv_at hl 0 rfl) ?_
          refine c_get_14_1N (k := a15) hx hb hts hown hC hX hka15 (va_Nw.use rfl (hC.2.1 _ t_134)) d_cPolicy_isDisputed_28 ?_
          refine lv_aload_n hx hb d_cPolicy_isDisputed_31 rfl (lv_at hl 2 rfl) ?_
          refine c_get_14_1N (k := x1) hx hb hts hown hC hX hk1 (va_Nw.use rfl (hC.2.1 _ t_134)) d_cPolicy_isDisputed_32 ?_
          refine lv_icmp_ge hx hb d_cPolicy_isDisputed_35 (tgt := 71) (by decide) (fun hc => ?_) (fun hc => ?_)
          · rw [if_pos hc] at h
            obtain ⟨a71, e71, h⟩ := bd_some h
            refine lv_iinc (v := a71) (lv' := [(2, .int a71), (3, .ref (b + a15)), (0, .ref (b + k0)), (1, .ref (b + x1))]) hx hb d_cPolicy_isDisputed_71 hl (k := 3) rfl e71.symm (by decide) rfl (fun ls hl => ?_)
            refine lv_goto hx hb d_cPolicy_isDisputed_74 (tgt := 2) (by decide) ?_
            exact ih2 a71 H locs ls  hX hS (lv_sub hl [2, 3, 0] rfl) h
          · rw [if_neg hc] at h
            refine lv_aload_n hx hb d_cPolicy_isDisputed_38 rfl (lv_at hl 0 rfl) ?_
            refine c_get_14_11N (k := a15) hx hb hts hown hC hX hka15 (va_Nw.use rfl (hC.2.1 _ t_158)) d_cPolicy_isDisputed_39 ?_
            refine lv_aload_n hx hb d_cPolicy_isDisputed_42 rfl (lv_at hl 2 rfl) ?_
            refine c_get_14_11N (k := x1) hx hb hts hown hC hX hk1 (va_Nw.use rfl (hC.2.1 _ t_158)) d_cPolicy_isDisputed_43 ?_
            refine lv_icmp_eq hx hb d_cPolicy_isDisputed_46 (tgt := 71) (by decide) (fun hc => ?_) (fun hc => ?_)
            · rw [if_pos hc] at h
              obtain ⟨a71, e71, h⟩ := bd_some h
              refine lv_iinc (v := a71) (lv' := [(2, .int a71), (3, .ref (b + a15)), (0, .ref (b + k0)), (1, .ref (b + x1))]) hx hb d_cPolicy_isDisputed_71 hl (k := 3) rfl e71.symm (by decide) rfl (fun ls hl => ?_)
              refine lv_goto hx hb d_cPolicy_isDisputed_74 (tgt := 2) (by decide) ?_
              exact ih2 a71 H locs ls  hX hS (lv_sub hl [2, 3, 0] rfl) h
            · rw [if_neg hc] at h
              refine lv_aload_n hx hb d_cPolicy_isDisputed_49 rfl (lv_at hl 0 rfl) ?_
              refine c_get_14_9N (k := a15) hx hb hts hown hC hX hka15 (va_Nw.use rfl (hC.2.1 _ t_152)) d_cPolicy_isDisputed_50 ?_
              refine lv_aload_n hx hb d_cPolicy_isDisputed_53 rfl (lv_at hl 2 rfl) ?_
              refine c_get_14_9N (k := x1) hx hb hts hown hC hX hk1 (va_Nw.use rfl (hC.2.1 _ t_152)) d_cPolicy_isDisputed_54 ?_
              refine lv_iand hx hb d_cPolicy_isDisputed_57 ?_
              refine lv_if_eq hx hb d_cPolicy_isDisputed_58 (tgt := 71) (by decide) (fun hc => ?_) (fun hc => ?_)
              · rw [if_pos hc] at h
                obtain ⟨a71, e71, h⟩ := bd_some h
                refine lv_iinc (v := a71) (lv' := [(2, .int a71), (3, .ref (b + a15)), (0, .ref (b + k0)), (1, .ref (b + x1))]) hx hb d_cPolicy_isDisputed_71 hl (k := 3) rfl e71.symm (by decide) rfl (fun ls hl => ?_)
                refine lv_goto hx hb d_cPolicy_isDisputed_74 (tgt := 2) (by decide) ?_
                exact ih2 a71 H locs ls  hX hS (lv_sub hl [2, 3, 0] rfl) h
              · rw [if_neg hc] at h
                refine lv_aload_n hx hb d_cPolicy_isDisputed_61 rfl (lv_at hl 0 rfl) ?_
                refine lv_aload_n hx hb d_cPolicy_isDisputed_62 rfl (lv_at hl 2 rfl) ?_
                obtain ⟨q63, hc63, h⟩ := Option.bind_eq_some_iff.mp h
                refine ck_V (As := [.ref (b + x1)]) (rest := []) (st1 := [.int (bI q63)]) (M_cRule_sharesTypesWith hka15 hk1 hc63) t_740 t_741 t_742 t_743 t_6 hx hb hts hown hC hX hS (hrc_c14 hC hX hka15) hml hl.1 ⟨by rw [hRf]; decide, by rw [hRl]; decide⟩ ⟨rfl, rfl⟩ (n := 1) (by decide +kernel) rfl rfl rfl (lv_room (Nat.le_of_ble_eq_true rfl)) d_cPolicy_isDisputed_63 (fun H locs hX hS => ?_)
                refine lz_ifeq hx hb d_cPolicy_isDisputed_66 (tgt := 71) (by decide) (fun hc => ?_) (fun hc => ?_)
                · rw [if_neg hc] at h
                  obtain ⟨a71, e71, h⟩ := bd_some h
                  refine lv_iinc (v := a71) (lv' := [(2, .int a71), (3, .ref (b + a15)), (0, .ref (b + k0)), (1, .ref (b + x1))]) hx hb d_cPolicy_isDisputed_71 hl (k := 3) rfl e71.symm (by decide) rfl (fun ls hl => ?_)
                  refine lv_goto hx hb d_cPolicy_isDisputed_74 (tgt := 2) (by decide) ?_
                  exact ih2 a71 H locs ls  hX hS (lv_sub hl [2, 3, 0] rfl) h
                · rw [if_pos hc] at h
                  refine lv_iconst (v := 1) hx hb d_cPolicy_isDisputed_69 (by decide) ?_
                  obtain rfl := Option.some.inj h
                  exact rt_zt hQ hx hb hr hX hS hlk d_cPolicy_isDisputed_70
  exact L2 600 0 H locs ls  hX hS (lv_sub hl [1, 2, 0] rfl) h
abbrev y_cPolicy_isBroken : MethodName := ({ cls := "TypeGuard$Policy", name := "isBroken", desc := "(LTypeGuard$Rule;)Z" } : Jvm.MethodName)
theorem d_cPolicy_isBroken_0 : decode prog_6_method_10_code 0 = .ok (.iconst 0, 1) := by decide +kernel
theorem d_cPolicy_isBroken_1 : decode prog_6_method_10_code 1 = .ok (.istore_n 2, 1) := by decide +kernel
theorem d_cPolicy_isBroken_2 : decode prog_6_method_10_code 2 = .ok (.iload_n 2, 1) := by decide +kernel
theorem d_cPolicy_isBroken_3 : decode prog_6_method_10_code 3 = .ok (.aload_n 0, 1) := by decide +kernel
theorem d_cPolicy_isBroken_4 : decode prog_6_method_10_code 4 = .ok (.getfield 52, 3) := by decide +kernel
theorem d_cPolicy_isBroken_7 : decode prog_6_method_10_code 7 = .ok (.if_icmp .ge 44, 3) := by decide +kernel
theorem d_cPolicy_isBroken_10 : decode prog_6_method_10_code 10 = .ok (.aload_n 0, 1) := by decide +kernel
theorem d_cPolicy_isBroken_11 : decode prog_6_method_10_code 11 = .ok (.getfield 43, 3) := by decide +kernel
theorem d_cPolicy_isBroken_14 : decode prog_6_method_10_code 14 = .ok (.iload_n 2, 1) := by decide +kernel
theorem d_cPolicy_isBroken_15 : decode prog_6_method_10_code 15 = .ok (.aaload, 1) := by decide +kernel
theorem d_cPolicy_isBroken_16 : decode prog_6_method_10_code 16 = .ok (.astore_n 3, 1) := by decide +kernel
theorem d_cPolicy_isBroken_17 : decode prog_6_method_10_code 17 = .ok (.aload_n 3, 1) := by decide +kernel
theorem d_cPolicy_isBroken_18 : decode prog_6_method_10_code 18 = .ok (.getfield 59, 3) := by decide +kernel
theorem d_cPolicy_isBroken_21 : decode prog_6_method_10_code 21 = .ok (.getstatic 67, 3) := by decide +kernel
theorem d_cPolicy_isBroken_24 : decode prog_6_method_10_code 24 = .ok (.if_acmp .ne 21, 3) := by decide +kernel
theorem d_cPolicy_isBroken_27 : decode prog_6_method_10_code 27 = .ok (.aload_n 3, 1) := by decide +kernel
theorem d_cPolicy_isBroken_28 : decode prog_6_method_10_code 28 = .ok (.aload_n 1, 1) := by decide +kernel
theorem d_cPolicy_isBroken_29 : decode prog_6_method_10_code 29 = .ok (.invokevirtual 121, 3) := by decide +kernel
theorem d_cPolicy_isBroken_32 : decode prog_6_method_10_code 32 = .ok (.ifCond .eq 13, 3) := by decide +kernel
theorem d_cPolicy_isBroken_35 : decode prog_6_method_10_code 35 = .ok (.aload_n 3, 1) := by decide +kernel
theorem d_cPolicy_isBroken_36 : decode prog_6_method_10_code 36 = .ok (.aload_n 1, 1) := by decide +kernel
theorem d_cPolicy_isBroken_37 : decode prog_6_method_10_code 37 = .ok (.invokevirtual 118, 3) := by decide +kernel
theorem d_cPolicy_isBroken_40 : decode prog_6_method_10_code 40 = .ok (.ifCond .eq 5, 3) := by decide +kernel
theorem d_cPolicy_isBroken_43 : decode prog_6_method_10_code 43 = .ok (.iconst 1, 1) := by decide +kernel
theorem d_cPolicy_isBroken_44 : decode prog_6_method_10_code 44 = .ok (.ireturn, 1) := by decide +kernel
theorem d_cPolicy_isBroken_45 : decode prog_6_method_10_code 45 = .ok (.iinc 2 1, 3) := by decide +kernel
theorem d_cPolicy_isBroken_48 : decode prog_6_method_10_code 48 = .ok (.goto (-46), 3) := by decide +kernel
theorem d_cPolicy_isBroken_51 : decode prog_6_method_10_code 51 = .ok (.iconst 0, 1) := by decide +kernel
theorem d_cPolicy_isBroken_52 : decode prog_6_method_10_code 52 = .ok (.ireturn, 1) := by decide +kernel
def cPolicy_isBroken_L2 (v0_2 : Nat) (v1_2 : Nat) (S_2 : CS) : Nat → Int32 → Option Bool
  | 0, _ => none
  | n + 1, v2_2 => (if (gI S_2 v0_2 8) ≤ v2_2 then some false else (if inbd v2_2 24 = true then (bd (((v0_2 + 12) + (9 + 4 * txN v2_2))) fun a15 => (bd (gR S_2 a15 0) fun r18 => (if r18 < 15 then (if r18 = 5 then ((cRule_sharesPermissionsWith a15 v1_2 S_2).bind fun q29 => (if q29 = true then ((cRule_sharesTypesWith a15 v1_2 S_2).bind fun q37 => (if q37 = true then some true else (bd ((v2_2 + 1)) fun a45 => (cPolicy_isBroken_L2 v0_2 v1_2 S_2 n) a45))) else (bd ((v2_2 + 1)) fun a45 => (cPolicy_isBroken_L2 v0_2 v1_2 S_2 n) a45))) else (bd ((v2_2 + 1)) fun a45 => (cPolicy_isBroken_L2 v0_2 v1_2 S_2 n) a45)) else none))) else none))
def cPolicy_isBroken (k0 : Nat) (x1 : Nat) (S : CS) : Option Bool := cPolicy_isBroken_L2 k0 x1 S 600 0
set_option maxHeartbeats 4000000 in
set_option maxRecDepth 100000 in
theorem M_cPolicy_isBroken {l : Launch} {D : va_G} {cA : Nat → ClassId} {b : Nat} {ad : Nat → Nat} {k0 : Nat} {x1 : Nat} {S : CS} {T : MS × (Nat → Int64)} {rr : Bool} (hk0 : kd k0 = 7) (hk1 : kd x1 = 14) (h : cPolicy_isBroken k0 x1 S = some rr) : Met l y_cPolicy_isBroken (Cond.code y_cPolicy_isBroken prog_6_method_10_code 4 (Option.some Jvm.ClassFile.FieldType.boolean) :: TW) { frames := 2, cells := 0, slots := 0, locals := 43 } (va_Pc [.ref (b + k0), .ref (b + x1)] (Rp D cA b ad (S, T))) (Qr D cA b ad (S, T) (some (.int (bI rr)))) 0 0 (Ab b) := by
  refine Ct_of (by decide) (Nat.le_of_ble_eq_true rfl) ?_
  intro p e R s m args below meth c ls Q H locs hR hQ hx hb hts hown hml hr hlk hC hX hS hl
  have hRf : R.frames = 2 := by rw [hR]
  have hRl : R.locals = 43 := by rw [hR]
  have hown : s.vm.findClass "TypeGuard$Policy" = some m.cls := hown
  have hl : lv_has ls 4 [(0, .ref (b + k0)), (1, .ref (b + x1))] := hl
  rw [cPolicy_isBroken] at h
  refine lv_iconst (v := 0) hx hb d_cPolicy_isBroken_0 (by decide) ?_
  refine lv_istore_n (lv' := [(2, .int 0), (0, .ref (b + k0)), (1, .ref (b + x1))]) hx hb d_cPolicy_isBroken_1 rfl hl (by decide) rfl (fun ls hl => ?_)
  have L2 : ∀ (n2 : Nat) (v2_2 : Int32) (H : Heap) (locs : List Loc) (ls : Array Slot), hp D cA b ad (S, T) H → va_S (Ab b) s.heap H locs → lv_has ls 4 [(0, .ref (b + k0)), (1, .ref (b + x1)), (2, .int v2_2)] → cPolicy_isBroken_L2 k0 x1 S n2 v2_2 = some rr → W p l e R s m args below meth c H locs 0 0 Q (F0 m 2 ls []) := by
    intro n2; induction n2 with
    | zero => intro v2_2 H locs ls  hX hS hl h; rw [cPolicy_isBroken_L2] at h; cases h
    | succ n2 ih2 =>
      intro v2_2 H locs ls  hX hS hl h
      rw [cPolicy_isBroken_L2] at h
      refine lv_iload_n hx hb d_cPolicy_isBroken_2 rfl (lv_at hl 2 rfl) ?_
      refine lv_aload_n hx hb d_cPolicy_isBroken_3 rfl (lv_at hl 0 rfl) ?_
      refine c_get_7_8 (k := k0) hx hb hts hown hC hX hk0 (hts _ t_205) d_cPolicy_isBroken_4 ?_
      refine lv_icmp_ge hx hb d_cPolicy_isBroken_7 (tgt := 51) (by decide) (fun hc => ?_) (fun hc => ?_)
      · rw [if_pos hc] at h
        refine lv_iconst (v := 0) hx hb d_cPolicy_isBroken_51 (by decide) ?_
        obtain rfl := Option.some.inj h
        exact rt_zf hQ hx hb hr hX hS hlk d_cPolicy_isBroken_52
      · rw [if_neg hc] at h
        refine lv_aload_n hx hb d_cPolicy_isBroken_10 rfl (lv_at hl 0 rfl) ?_
        refine c_get_7_7 (k := k0) hx hb hts hown hC hX hk0 (hts _ t_203) d_cPolicy_isBroken_11 ?_
        refine lv_iload_n hx hb d_cPolicy_isBroken_14 rfl (lv_at hl 2 rfl) ?_
        by_cases hg15 : inbd v2_2 24 = true
        rotate_left; · rw [if_neg hg15] at h; cases h
        rw [if_pos hg15] at h
        refine c_ald_13 (k := (k0 + 12)) hx hb hC hX (kx_7_12 hk0) hg15 d_cPolicy_isBroken_15 ?_
        obtain ⟨a15, e15, h⟩ := bd_some h
        refine lt_R e15 ?_
        have hka15 := (ke_13 (k := (k0 + 12)) (kx_7_12 hk0) (inbd_lt hg15))
        rw [← e15] at hka15
        refine lv_astore_n (lv' := [(3, .ref (b + a15)), (0, .ref (b + k0)), (1, .ref (b + x1)), (2, .int v2_2)]) hx hb d_cPolicy_isBroken_16 rfl hl (by decide) rfl (fun ls hl => ?_)
        refine lv_aload_n hx hb d_cPolicy_isBroken_17 rfl (lv_at hl 0 rfl) ?_
        refine c_get_14_0N (k := a15) hx hb hts hown hC hX hka15 (va_Nw.use rfl (hC.2.1 _ t_131)) d_cPolicy_isBroken_18 ?_
        obtain ⟨r18, e18, h⟩ := bd_some h
        refine lt_W e18 ?_
        by_cases hkr18 : r18 < 15
        rotate_left; · rw [if_neg hkr18] at h; cases h
        rw [if_pos hkr18] at h
        refine st_W (i := 5) hx hb hC hS hown (hts _ t_754) d_cPolicy_isBroken_21 (by decide) ?_
        refine lw_acmpne hx hb (hC.2.2.1) hkr18 (by decide) d_cPolicy_isBroken_24 (tgt := 45) (by decide) (fun hc => ?_) (fun hc => ?_)
        · rw [if_neg hc] at h
          obtain ⟨a45, e45, h⟩ := bd_some h
          refine lv_iinc (v := a45) (lv' := [(2, .int a45), (3, .ref (b + a15)), (0, .ref (b + k0)), (1, .ref (b + x1))]) hx hb d_cPolicy_isBroken_45 hl (k := 3) rfl e45.symm (by decide) rfl (fun ls hl => ?_)
          refine lv_goto hx hb d_cPolicy_isBroken_48 (tgt := 2) (by decide) ?_
          exact ih2 a45 H locs ls  hX hS (lv_sub hl [2, 3, 0] rfl) h
        · rw [if_pos hc] at h
          refine lv_aload_n hx hb d_cPolicy_isBroken_27 rfl (lv_at hl 0 rfl) ?_
          refine lv_aload_n hx hb d_cPolicy_isBroken_28 rfl (lv_at hl 2 rfl) ?_
          obtain ⟨q29, hc29, h⟩ := Option.bind_eq_some_iff.mp h
          refine ck_V (As := [.ref (b + x1)]) (rest := []) (st1 := [.int (bI q29)]) (M_cRule_sharesPermissionsWith hka15 hk1 hc29) t_755 t_756 t_757 t_758 t_6 hx hb hts hown hC hX hS (hrc_c14 hC hX hka15) hml hl.1 ⟨by rw [hRf]; decide, by rw [hRl]; decide⟩ ⟨rfl, rfl⟩ (n := 1) (by decide +kernel) rfl rfl rfl (lv_room (Nat.le_of_ble_eq_true rfl)) d_cPolicy_isBroken_29 (fun H locs hX hS => ?_)
          refine lz_ifeq hx hb d_cPolicy_isBroken_32 (tgt := 45) (by decide) (fun hc => ?_) (fun hc => ?_)
          · rw [if_neg hc] at h
            obtain ⟨a45, e45, h⟩ := bd_some h
            refine lv_iinc (v := a45) (lv' := [(2, .int a45), (3, .ref (b + a15)), (0, .ref (b + k0)), (1, .ref (b + x1))]) hx hb d_cPolicy_isBroken_45 hl (k := 3) rfl e45.symm (by decide) rfl (fun ls hl => ?_)
            refine lv_goto hx hb d_cPolicy_isBroken_48 (tgt := 2) (by decide) ?_
            exact ih2 a45 H locs ls  hX hS (lv_sub hl [2, 3, 0] rfl) h
          · rw [if_pos hc] at h
            refine lv_aload_n hx hb d_cPolicy_isBroken_35 rfl (lv_at hl 0 rfl) ?_
            refine lv_aload_n hx hb d_cPolicy_isBroken_36 rfl (lv_at hl 2 rfl) ?_
            obtain ⟨q37, hc37, h⟩ := Option.bind_eq_some_iff.mp h
            refine ck_V (As := [.ref (b + x1)]) (rest := []) (st1 := [.int (bI q37)]) (M_cRule_sharesTypesWith hka15 hk1 hc37) t_740 t_741 t_742 t_743 t_6 hx hb hts hown hC hX hS (hrc_c14 hC hX hka15) hml hl.1 ⟨by rw [hRf]; decide, by rw [hRl]; decide⟩ ⟨rfl, rfl⟩ (n := 1) (by decide +kernel) rfl rfl rfl (lv_room (Nat.le_of_ble_eq_true rfl)) d_cPolicy_isBroken_37 (fun H locs hX hS => ?_)
            refine lz_ifeq hx hb d_cPolicy_isBroken_40 (tgt := 45) (by decide) (fun hc => ?_) (fun hc => ?_)
            · rw [if_neg hc] at h
              obtain ⟨a45, e45, h⟩ := bd_some h
              refine lv_iinc (v := a45) (lv' := [(2, .int a45), (3, .ref (b + a15)), (0, .ref (b + k0)), (1, .ref (b + x1))]) hx hb d_cPolicy_isBroken_45 hl (k := 3) rfl e45.symm (by decide) rfl (fun ls hl => ?_)
              refine lv_goto hx hb d_cPolicy_isBroken_48 (tgt := 2) (by decide) ?_
              exact ih2 a45 H locs ls  hX hS (lv_sub hl [2, 3, 0] rfl) h
            · rw [if_pos hc] at h
              refine lv_iconst (v := 1) hx hb d_cPolicy_isBroken_43 (by decide) ?_
              obtain rfl := Option.some.inj h
              exact rt_zt hQ hx hb hr hX hS hlk d_cPolicy_isBroken_44
  exact L2 600 0 H locs ls  hX hS (lv_sub hl [1, 2, 0] rfl) h
abbrev y_cPolicy_faultOf : MethodName := ({ cls := "TypeGuard$Policy", name := "faultOf", desc := "(LTypeGuard$Rule;)I" } : Jvm.MethodName)
theorem d_cPolicy_faultOf_0 : decode prog_6_method_8_code 0 = .ok (.aload_n 1, 1) := by decide +kernel
theorem d_cPolicy_faultOf_1 : decode prog_6_method_8_code 1 = .ok (.getfield 59, 3) := by decide +kernel
theorem d_cPolicy_faultOf_4 : decode prog_6_method_8_code 4 = .ok (.getstatic 79, 3) := by decide +kernel
theorem d_cPolicy_faultOf_7 : decode prog_6_method_8_code 7 = .ok (.if_acmp .ne 13, 3) := by decide +kernel
theorem d_cPolicy_faultOf_10 : decode prog_6_method_8_code 10 = .ok (.aload_n 0, 1) := by decide +kernel
theorem d_cPolicy_faultOf_11 : decode prog_6_method_8_code 11 = .ok (.aload_n 1, 1) := by decide +kernel
theorem d_cPolicy_faultOf_12 : decode prog_6_method_8_code 12 = .ok (.invokevirtual 106, 3) := by decide +kernel
theorem d_cPolicy_faultOf_15 : decode prog_6_method_8_code 15 = .ok (.ifCond .eq 5, 3) := by decide +kernel
theorem d_cPolicy_faultOf_18 : decode prog_6_method_8_code 18 = .ok (.iconst 5, 1) := by decide +kernel
theorem d_cPolicy_faultOf_19 : decode prog_6_method_8_code 19 = .ok (.ireturn, 1) := by decide +kernel
theorem d_cPolicy_faultOf_20 : decode prog_6_method_8_code 20 = .ok (.aload_n 1, 1) := by decide +kernel
theorem d_cPolicy_faultOf_21 : decode prog_6_method_8_code 21 = .ok (.getfield 59, 3) := by decide +kernel
theorem d_cPolicy_faultOf_24 : decode prog_6_method_8_code 24 = .ok (.getstatic 110, 3) := by decide +kernel
theorem d_cPolicy_faultOf_27 : decode prog_6_method_8_code 27 = .ok (.if_acmp .ne 14, 3) := by decide +kernel
theorem d_cPolicy_faultOf_30 : decode prog_6_method_8_code 30 = .ok (.aload_n 0, 1) := by decide +kernel
theorem d_cPolicy_faultOf_31 : decode prog_6_method_8_code 31 = .ok (.aload_n 1, 1) := by decide +kernel
theorem d_cPolicy_faultOf_32 : decode prog_6_method_8_code 32 = .ok (.invokevirtual 113, 3) := by decide +kernel
theorem d_cPolicy_faultOf_35 : decode prog_6_method_8_code 35 = .ok (.ifCond .eq 6, 3) := by decide +kernel
theorem d_cPolicy_faultOf_38 : decode prog_6_method_8_code 38 = .ok (.bipush 6, 2) := by decide +kernel
theorem d_cPolicy_faultOf_40 : decode prog_6_method_8_code 40 = .ok (.ireturn, 1) := by decide +kernel
theorem d_cPolicy_faultOf_41 : decode prog_6_method_8_code 41 = .ok (.iconst 0, 1) := by decide +kernel
theorem d_cPolicy_faultOf_42 : decode prog_6_method_8_code 42 = .ok (.ireturn, 1) := by decide +kernel
def cPolicy_faultOf_J20 (v0_20 : Nat) (v1_20 : Nat) (S_20 : CS) : Option Int32 := (bd (gR S_20 v1_20 0) fun r21 => (if r21 < 15 then (if r21 = 8 then ((cPolicy_isBroken v0_20 v1_20 S_20).bind fun q32 => (if q32 = true then some 6 else some 0)) else some 0) else none))
def cPolicy_faultOf (k0 : Nat) (x1 : Nat) (S : CS) : Option Int32 := (bd (gR S x1 0) fun r1 => (if r1 < 15 then (if r1 = 9 then ((cPolicy_isDisputed k0 x1 S).bind fun q12 => (if q12 = true then some 5 else cPolicy_faultOf_J20 k0 x1 S)) else cPolicy_faultOf_J20 k0 x1 S) else none))
set_option maxHeartbeats 4000000 in
set_option maxRecDepth 100000 in
theorem M_cPolicy_faultOf {l : Launch} {D : va_G} {cA : Nat → ClassId} {b : Nat} {ad : Nat → Nat} {k0 : Nat} {x1 : Nat} {S : CS} {T : MS × (Nat → Int64)} {rr : Int32} (hk0 : kd k0 = 7) (hk1 : kd x1 = 14) (h : cPolicy_faultOf k0 x1 S = some rr) : Met l y_cPolicy_faultOf (Cond.code y_cPolicy_faultOf prog_6_method_8_code 2 (Option.some Jvm.ClassFile.FieldType.int) :: TW) { frames := 3, cells := 0, slots := 0, locals := 66 } (va_Pc [.ref (b + k0), .ref (b + x1)] (Rp D cA b ad (S, T))) (Qr D cA b ad (S, T) (some (.int rr))) 0 0 (Ab b) := by
  refine Ct_of (by decide) (Nat.le_of_ble_eq_true rfl) ?_
  intro p e R s m args below meth c ls Q H locs hR hQ hx hb hts hown hml hr hlk hC hX hS hl
  have hRf : R.frames = 3 := by rw [hR]
  have hRl : R.locals = 66 := by rw [hR]
  have hown : s.vm.findClass "TypeGuard$Policy" = some m.cls := hown
  have hl : lv_has ls 2 [(0, .ref (b + k0)), (1, .ref (b + x1))] := hl
  rw [cPolicy_faultOf] at h
  refine lv_aload_n hx hb d_cPolicy_faultOf_0 rfl (lv_at hl 1 rfl) ?_
  refine c_get_14_0N (k := x1) hx hb hts hown hC hX hk1 (va_Nw.use rfl (hC.2.1 _ t_131)) d_cPolicy_faultOf_1 ?_
  obtain ⟨r1, e1, h⟩ := bd_some h
  refine lt_W e1 ?_
  by_cases hkr1 : r1 < 15
  rotate_left; · rw [if_neg hkr1] at h; cases h
  rw [if_pos hkr1] at h
  refine st_W (i := 9) hx hb hC hS hown (hts _ t_735) d_cPolicy_faultOf_4 (by decide) ?_
  have J20 : ∀  (H : Heap) (locs : List Loc) (ls : Array Slot), hp D cA b ad (S, T) H → va_S (Ab b) s.heap H locs → lv_has ls 2 [(0, .ref (b + k0)), (1, .ref (b + x1))] → cPolicy_faultOf_J20 k0 x1 S = some rr → W p l e R s m args below meth c H locs 0 0 Q (F0 m 20 ls []) := by
    intro  H locs ls  hX hS hl h
    rw [cPolicy_faultOf_J20] at h
    refine lv_aload_n hx hb d_cPolicy_faultOf_20 rfl (lv_at hl 1 rfl) ?_
    refine c_get_14_0N (k := x1) hx hb hts hown hC hX hk1 (va_Nw.use rfl (hC.2.1 _ t_131)) d_cPolicy_faultOf_21 ?_
    obtain ⟨r21, e21, h⟩ := bd_some h
    refine lt_W e21 ?_
    by_cases hkr21 : r21 < 15
    rotate_left; · rw [if_neg hkr21] at h; cases h
    rw [if_pos hkr21] at h
    refine st_W (i := 8) hx hb hC hS hown (hts _ t_748) d_cPolicy_faultOf_24 (by decide) ?_
    refine lw_acmpne hx hb (hC.2.2.1) hkr21 (by decide) d_cPolicy_faultOf_27 (tgt := 41) (by decide) (fun hc => ?_) (fun hc => ?_)
    · rw [if_neg hc] at h
      refine lv_iconst (v := 0) hx hb d_cPolicy_faultOf_41 (by decide) ?_
      obtain rfl := Option.some.inj h
      exact rt_i hQ hx hb hr hX hS hlk d_cPolicy_faultOf_42
    · rw [if_pos hc] at h
      refine lv_aload_n hx hb d_cPolicy_faultOf_30 rfl (lv_at hl 0 rfl) ?_
      refine lv_aload_n hx hb d_cPolicy_faultOf_31 rfl (lv_at hl 1 rfl) ?_
      obtain ⟨q32, hc32, h⟩ := Option.bind_eq_some_iff.mp h
      refine ck_V (As := [.ref (b + x1)]) (rest := []) (st1 := [.int (bI q32)]) (M_cPolicy_isBroken hk0 hk1 hc32) t_750 t_752 p_29 t_753 t_4 hx hb hts hown hC hX hS (hrc_c7 hC hX hk0) hml hl.1 ⟨by rw [hRf]; decide, by rw [hRl]; decide⟩ ⟨rfl, rfl⟩ (n := 1) (by decide +kernel) rfl rfl rfl (lv_room (Nat.le_of_ble_eq_true rfl)) d_cPolicy_faultOf_32 (fun H locs hX hS => ?_)
      refine lz_ifeq hx hb d_cPolicy_faultOf_35 (tgt := 41) (by decide) (fun hc => ?_) (fun hc => ?_)
      · rw [if_neg hc] at h
        refine lv_iconst (v := 0) hx hb d_cPolicy_faultOf_41 (by decide) ?_
        obtain rfl := Option.some.inj h
        exact rt_i hQ hx hb hr hX hS hlk d_cPolicy_faultOf_42
      · rw [if_pos hc] at h
        refine lv_bipush (v := 6) hx hb d_cPolicy_faultOf_38 (by decide) ?_
        obtain rfl := Option.some.inj h
        exact rt_i hQ hx hb hr hX hS hlk d_cPolicy_faultOf_40
  refine lw_acmpne hx hb (hC.2.2.1) hkr1 (by decide) d_cPolicy_faultOf_7 (tgt := 20) (by decide) (fun hc => ?_) (fun hc => ?_)
  · rw [if_neg hc] at h
    exact J20  H locs ls  hX hS (lv_sub hl [0, 1] rfl) h
  · rw [if_pos hc] at h
    refine lv_aload_n hx hb d_cPolicy_faultOf_10 rfl (lv_at hl 0 rfl) ?_
    refine lv_aload_n hx hb d_cPolicy_faultOf_11 rfl (lv_at hl 1 rfl) ?_
    obtain ⟨q12, hc12, h⟩ := Option.bind_eq_some_iff.mp h
    refine ck_V (As := [.ref (b + x1)]) (rest := []) (st1 := [.int (bI q12)]) (M_cPolicy_isDisputed hk0 hk1 hc12) t_736 t_738 p_28 t_739 t_4 hx hb hts hown hC hX hS (hrc_c7 hC hX hk0) hml hl.1 ⟨by rw [hRf]; decide, by rw [hRl]; decide⟩ ⟨rfl, rfl⟩ (n := 1) (by decide +kernel) rfl rfl rfl (lv_room (Nat.le_of_ble_eq_true rfl)) d_cPolicy_faultOf_12 (fun H locs hX hS => ?_)
    refine lz_ifeq hx hb d_cPolicy_faultOf_15 (tgt := 20) (by decide) (fun hc => ?_) (fun hc => ?_)
    · rw [if_neg hc] at h
      exact J20  H locs ls  hX hS (lv_sub hl [0, 1] rfl) h
    · rw [if_pos hc] at h
      refine lv_iconst (v := 5) hx hb d_cPolicy_faultOf_18 (by decide) ?_
      obtain rfl := Option.some.inj h
      exact rt_i hQ hx hb hr hX hS hlk d_cPolicy_faultOf_19
abbrev y_cReader_keepsPromises : MethodName := ({ cls := "TypeGuard$Reader", name := "keepsPromises", desc := "()Z" } : Jvm.MethodName)
theorem d_cReader_keepsPromises_0 : decode prog_7_method_5_code 0 = .ok (.iconst 0, 1) := by decide +kernel
theorem d_cReader_keepsPromises_1 : decode prog_7_method_5_code 1 = .ok (.istore_n 1, 1) := by decide +kernel
theorem d_cReader_keepsPromises_2 : decode prog_7_method_5_code 2 = .ok (.iload_n 1, 1) := by decide +kernel
theorem d_cReader_keepsPromises_3 : decode prog_7_method_5_code 3 = .ok (.aload_n 0, 1) := by decide +kernel
theorem d_cReader_keepsPromises_4 : decode prog_7_method_5_code 4 = .ok (.getfield 21, 3) := by decide +kernel
theorem d_cReader_keepsPromises_7 : decode prog_7_method_5_code 7 = .ok (.getfield 63, 3) := by decide +kernel
theorem d_cReader_keepsPromises_10 : decode prog_7_method_5_code 10 = .ok (.if_icmp .ge 54, 3) := by decide +kernel
theorem d_cReader_keepsPromises_13 : decode prog_7_method_5_code 13 = .ok (.aload_n 0, 1) := by decide +kernel
theorem d_cReader_keepsPromises_14 : decode prog_7_method_5_code 14 = .ok (.aload_n 0, 1) := by decide +kernel
theorem d_cReader_keepsPromises_15 : decode prog_7_method_5_code 15 = .ok (.getfield 21, 3) := by decide +kernel
theorem d_cReader_keepsPromises_18 : decode prog_7_method_5_code 18 = .ok (.aload_n 0, 1) := by decide +kernel
theorem d_cReader_keepsPromises_19 : decode prog_7_method_5_code 19 = .ok (.getfield 21, 3) := by decide +kernel
theorem d_cReader_keepsPromises_22 : decode prog_7_method_5_code 22 = .ok (.getfield 66, 3) := by decide +kernel
theorem d_cReader_keepsPromises_25 : decode prog_7_method_5_code 25 = .ok (.iload_n 1, 1) := by decide +kernel
theorem d_cReader_keepsPromises_26 : decode prog_7_method_5_code 26 = .ok (.aaload, 1) := by decide +kernel
theorem d_cReader_keepsPromises_27 : decode prog_7_method_5_code 27 = .ok (.invokevirtual 70, 3) := by decide +kernel
theorem d_cReader_keepsPromises_30 : decode prog_7_method_5_code 30 = .ok (.putfield 25, 3) := by decide +kernel
theorem d_cReader_keepsPromises_33 : decode prog_7_method_5_code 33 = .ok (.aload_n 0, 1) := by decide +kernel
theorem d_cReader_keepsPromises_34 : decode prog_7_method_5_code 34 = .ok (.getfield 25, 3) := by decide +kernel
theorem d_cReader_keepsPromises_37 : decode prog_7_method_5_code 37 = .ok (.ifCond .eq 21, 3) := by decide +kernel
theorem d_cReader_keepsPromises_40 : decode prog_7_method_5_code 40 = .ok (.aload_n 0, 1) := by decide +kernel
theorem d_cReader_keepsPromises_41 : decode prog_7_method_5_code 41 = .ok (.aload_n 0, 1) := by decide +kernel
theorem d_cReader_keepsPromises_42 : decode prog_7_method_5_code 42 = .ok (.getfield 21, 3) := by decide +kernel
theorem d_cReader_keepsPromises_45 : decode prog_7_method_5_code 45 = .ok (.getfield 66, 3) := by decide +kernel
theorem d_cReader_keepsPromises_48 : decode prog_7_method_5_code 48 = .ok (.iload_n 1, 1) := by decide +kernel
theorem d_cReader_keepsPromises_49 : decode prog_7_method_5_code 49 = .ok (.aaload, 1) := by decide +kernel
theorem d_cReader_keepsPromises_50 : decode prog_7_method_5_code 50 = .ok (.getfield 74, 3) := by decide +kernel
theorem d_cReader_keepsPromises_53 : decode prog_7_method_5_code 53 = .ok (.putfield 29, 3) := by decide +kernel
theorem d_cReader_keepsPromises_56 : decode prog_7_method_5_code 56 = .ok (.iconst 0, 1) := by decide +kernel
theorem d_cReader_keepsPromises_57 : decode prog_7_method_5_code 57 = .ok (.ireturn, 1) := by decide +kernel
theorem d_cReader_keepsPromises_58 : decode prog_7_method_5_code 58 = .ok (.iinc 1 1, 3) := by decide +kernel
theorem d_cReader_keepsPromises_61 : decode prog_7_method_5_code 61 = .ok (.goto (-59), 3) := by decide +kernel
theorem d_cReader_keepsPromises_64 : decode prog_7_method_5_code 64 = .ok (.iconst 1, 1) := by decide +kernel
theorem d_cReader_keepsPromises_65 : decode prog_7_method_5_code 65 = .ok (.ireturn, 1) := by decide +kernel
def cReader_keepsPromises_L2  : Nat → Int32 → CS → Option (CS × Bool)
  | 0, _, _ => none
  | n + 1, v1_2, S_2 => (bd (gR S_2 2 1) fun r4 => (if kd r4 = 7 then (if (gI S_2 r4 8) ≤ v1_2 then some (S_2, true) else (bd (gR S_2 2 1) fun r15 => (if kd r15 = 7 then (bd (gR S_2 2 1) fun r19 => (if kd r19 = 7 then (if inbd v1_2 24 = true then (bd (((r19 + 12) + (9 + 4 * txN v1_2))) fun a26 => ((cPolicy_faultOf r15 a26 S_2).bind fun q27 => (bd (pI S_2 2 2 q27) fun S30 => (if (gI S30 2 2) = 0 then (bd ((v1_2 + 1)) fun a58 => (cReader_keepsPromises_L2 n) a58 S30) else (bd (gR S30 2 1) fun r42 => (if kd r42 = 7 then (if inbd v1_2 24 = true then (bd (((r42 + 12) + (9 + 4 * txN v1_2))) fun a49 => (bd (pI S30 2 3 (gI S30 a49 1)) fun S53 => some (S53, false))) else none) else none)))))) else none) else none)) else none))) else none))
def cReader_keepsPromises (S : CS) : Option (CS × Bool) := cReader_keepsPromises_L2  600 0 S
set_option maxHeartbeats 4000000 in
set_option maxRecDepth 100000 in
theorem M_cReader_keepsPromises {l : Launch} {D : va_G} {cA : Nat → ClassId} {b : Nat} {ad : Nat → Nat}  {S : CS} {T : MS × (Nat → Int64)} {rr : (CS × Bool)}  (h : cReader_keepsPromises  S = some rr) : Met l y_cReader_keepsPromises (Cond.code y_cReader_keepsPromises prog_7_method_5_code 2 (Option.some Jvm.ClassFile.FieldType.boolean) :: TW) { frames := 4, cells := 0, slots := 0, locals := 87 } (va_Pc [.ref (b + 2)] (Rp D cA b ad (S, T))) (Qr D cA b ad (rr.1, T) (some (.int (bI rr.2)))) 0 0 (Ab b) := by
  refine Ct_of (by decide) (Nat.le_of_ble_eq_true rfl) ?_
  intro p e R s m args below meth c ls Q H locs hR hQ hx hb hts hown hml hr hlk hC hX hS hl
  have hRf : R.frames = 4 := by rw [hR]
  have hRl : R.locals = 87 := by rw [hR]
  have hown : s.vm.findClass "TypeGuard$Reader" = some m.cls := hown
  have hl : lv_has ls 2 [(0, .ref (b + 2))] := hl
  rw [cReader_keepsPromises] at h
  refine lv_iconst (v := 0) hx hb d_cReader_keepsPromises_0 (by decide) ?_
  refine lv_istore_n (lv' := [(1, .int 0), (0, .ref (b + 2))]) hx hb d_cReader_keepsPromises_1 rfl hl (by decide) rfl (fun ls hl => ?_)
  have L2 : ∀ (n2 : Nat) (v1_2 : Int32) (S_2 : CS) (H : Heap) (locs : List Loc) (ls : Array Slot), hp D cA b ad (S_2, T) H → va_S (Ab b) s.heap H locs → lv_has ls 2 [(0, .ref (b + 2)), (1, .int v1_2)] → cReader_keepsPromises_L2  n2 v1_2 S_2 = some rr → W p l e R s m args below meth c H locs 0 0 Q (F0 m 2 ls []) := by
    intro n2; induction n2 with
    | zero => intro v1_2 S_2 H locs ls  hX hS hl h; rw [cReader_keepsPromises_L2] at h; cases h
    | succ n2 ih2 =>
      intro v1_2 S_2 H locs ls  hX hS hl h
      rw [cReader_keepsPromises_L2] at h
      refine lv_iload_n hx hb d_cReader_keepsPromises_2 rfl (lv_at hl 1 rfl) ?_
      refine lv_aload_n hx hb d_cReader_keepsPromises_3 rfl (lv_at hl 0 rfl) ?_
      refine c_get_2_1 hx hb hts hown hC hX (by rfl) (hts _ t_228) d_cReader_keepsPromises_4 ?_
      obtain ⟨r4, e4, h⟩ := bd_some h
      refine lt_R e4 ?_
      by_cases hkr4 : kd r4 = 7
      rotate_left; · rw [if_neg hkr4] at h; cases h
      rw [if_pos hkr4] at h
      refine c_get_7_8N (k := r4) hx hb hts hown hC hX hkr4 (va_Nw.use rfl (hC.2.1 _ t_206)) d_cReader_keepsPromises_7 ?_
      refine lv_icmp_ge hx hb d_cReader_keepsPromises_10 (tgt := 64) (by decide) (fun hc => ?_) (fun hc => ?_)
      · rw [if_pos hc] at h
        refine lv_iconst (v := 1) hx hb d_cReader_keepsPromises_64 (by decide) ?_
        obtain rfl := Option.some.inj h
        exact rt_zt hQ hx hb hr hX hS hlk d_cReader_keepsPromises_65
      · rw [if_neg hc] at h
        refine lv_aload_n hx hb d_cReader_keepsPromises_13 rfl (lv_at hl 0 rfl) ?_
        refine lv_aload_n hx hb d_cReader_keepsPromises_14 rfl (lv_at hl 0 rfl) ?_
        refine c_get_2_1 hx hb hts hown hC hX (by rfl) (hts _ t_228) d_cReader_keepsPromises_15 ?_
        obtain ⟨r15, e15, h⟩ := bd_some h
        refine lt_R e15 ?_
        by_cases hkr15 : kd r15 = 7
        rotate_left; · rw [if_neg hkr15] at h; cases h
        rw [if_pos hkr15] at h
        refine lv_aload_n hx hb d_cReader_keepsPromises_18 rfl (lv_at hl 0 rfl) ?_
        refine c_get_2_1 hx hb hts hown hC hX (by rfl) (hts _ t_228) d_cReader_keepsPromises_19 ?_
        obtain ⟨r19, e19, h⟩ := bd_some h
        refine lt_R e19 ?_
        by_cases hkr19 : kd r19 = 7
        rotate_left; · rw [if_neg hkr19] at h; cases h
        rw [if_pos hkr19] at h
        refine c_get_7_7N (k := r19) hx hb hts hown hC hX hkr19 (va_Nw.use rfl (hC.2.1 _ t_204)) d_cReader_keepsPromises_22 ?_
        refine lv_iload_n hx hb d_cReader_keepsPromises_25 rfl (lv_at hl 1 rfl) ?_
        by_cases hg26 : inbd v1_2 24 = true
        rotate_left; · rw [if_neg hg26] at h; cases h
        rw [if_pos hg26] at h
        refine c_ald_13 (k := (r19 + 12)) hx hb hC hX (kx_7_12 hkr19) hg26 d_cReader_keepsPromises_26 ?_
        obtain ⟨a26, e26, h⟩ := bd_some h
        refine lt_R e26 ?_
        have hka26 := (ke_13 (k := (r19 + 12)) (kx_7_12 hkr19) (inbd_lt hg26))
        rw [← e26] at hka26
        obtain ⟨q27, hc27, h⟩ := Option.bind_eq_some_iff.mp h
        refine ck_V (As := [.ref (b + a26)]) (rest := [.ref (b + 2)]) (st1 := [.int q27, .ref (b + 2)]) (M_cPolicy_faultOf hkr15 hka26 hc27) t_731 t_732 t_733 t_734 t_4 hx hb hts hown hC hX hS (hrc_c7 hC hX hkr15) hml hl.1 ⟨by rw [hRf]; decide, by rw [hRl]; decide⟩ ⟨rfl, rfl⟩ (n := 1) (by decide +kernel) rfl rfl rfl (lv_room (Nat.le_of_ble_eq_true rfl)) d_cReader_keepsPromises_27 (fun H locs hX hS => ?_)
        refine c_put_2_2 (v := q27) hx hb hts hown hC hX hS (by rfl) (hts _ t_229) d_cReader_keepsPromises_30 (fun H locs hX hS => ?_)
        obtain ⟨S30, e30, h⟩ := bd_some h
        rw [← e30] at hX
        refine lv_aload_n hx hb d_cReader_keepsPromises_33 rfl (lv_at hl 0 rfl) ?_
        refine c_get_2_2 hx hb hts hown hC hX (by rfl) (hts _ t_229) d_cReader_keepsPromises_34 ?_
        refine lv_if_eq hx hb d_cReader_keepsPromises_37 (tgt := 58) (by decide) (fun hc => ?_) (fun hc => ?_)
        · rw [if_pos hc] at h
          obtain ⟨a58, e58, h⟩ := bd_some h
          refine lv_iinc (v := a58) (lv' := [(1, .int a58), (0, .ref (b + 2))]) hx hb d_cReader_keepsPromises_58 hl (k := 1) rfl e58.symm (by decide) rfl (fun ls hl => ?_)
          refine lv_goto hx hb d_cReader_keepsPromises_61 (tgt := 2) (by decide) ?_
          exact ih2 a58 S30 H locs ls  hX hS (lv_sub hl [1, 0] rfl) h
        · rw [if_neg hc] at h
          refine lv_aload_n hx hb d_cReader_keepsPromises_40 rfl (lv_at hl 0 rfl) ?_
          refine lv_aload_n hx hb d_cReader_keepsPromises_41 rfl (lv_at hl 0 rfl) ?_
          refine c_get_2_1 hx hb hts hown hC hX (by rfl) (hts _ t_228) d_cReader_keepsPromises_42 ?_
          obtain ⟨r42, e42, h⟩ := bd_some h
          refine lt_R e42 ?_
          by_cases hkr42 : kd r42 = 7
          rotate_left; · rw [if_neg hkr42] at h; cases h
          rw [if_pos hkr42] at h
          refine c_get_7_7N (k := r42) hx hb hts hown hC hX hkr42 (va_Nw.use rfl (hC.2.1 _ t_204)) d_cReader_keepsPromises_45 ?_
          refine lv_iload_n hx hb d_cReader_keepsPromises_48 rfl (lv_at hl 1 rfl) ?_
          by_cases hg49 : inbd v1_2 24 = true
          rotate_left; · rw [if_neg hg49] at h; cases h
          rw [if_pos hg49] at h
          refine c_ald_13 (k := (r42 + 12)) hx hb hC hX (kx_7_12 hkr42) hg49 d_cReader_keepsPromises_49 ?_
          obtain ⟨a49, e49, h⟩ := bd_some h
          refine lt_R e49 ?_
          have hka49 := (ke_13 (k := (r42 + 12)) (kx_7_12 hkr42) (inbd_lt hg49))
          rw [← e49] at hka49
          refine c_get_14_1N (k := a49) hx hb hts hown hC hX hka49 (va_Nw.use rfl (hC.2.1 _ t_133)) d_cReader_keepsPromises_50 ?_
          refine c_put_2_3 (v := (gI S30 a49 1)) hx hb hts hown hC hX hS (by rfl) (hts _ t_231) d_cReader_keepsPromises_53 (fun H locs hX hS => ?_)
          obtain ⟨S53, e53, h⟩ := bd_some h
          rw [← e53] at hX
          refine lv_iconst (v := 0) hx hb d_cReader_keepsPromises_56 (by decide) ?_
          obtain rfl := Option.some.inj h
          exact rt_zf hQ hx hb hr hX hS hlk d_cReader_keepsPromises_57
  exact L2 600 0 S H locs ls  hX hS (lv_sub hl [1, 0] rfl) h
abbrev y_cReader_read : MethodName := ({ cls := "TypeGuard$Reader", name := "read", desc := "([CI)Z" } : Jvm.MethodName)
theorem d_cReader_read_0 : decode prog_7_method_2_code 0 = .ok (.aload_n 0, 1) := by decide +kernel
theorem d_cReader_read_1 : decode prog_7_method_2_code 1 = .ok (.iconst 0, 1) := by decide +kernel
theorem d_cReader_read_2 : decode prog_7_method_2_code 2 = .ok (.putfield 25, 3) := by decide +kernel
theorem d_cReader_read_5 : decode prog_7_method_2_code 5 = .ok (.aload_n 0, 1) := by decide +kernel
theorem d_cReader_read_6 : decode prog_7_method_2_code 6 = .ok (.iconst (-1), 1) := by decide +kernel
theorem d_cReader_read_7 : decode prog_7_method_2_code 7 = .ok (.putfield 29, 3) := by decide +kernel
theorem d_cReader_read_10 : decode prog_7_method_2_code 10 = .ok (.aload_n 0, 1) := by decide +kernel
theorem d_cReader_read_11 : decode prog_7_method_2_code 11 = .ok (.iconst (-1), 1) := by decide +kernel
theorem d_cReader_read_12 : decode prog_7_method_2_code 12 = .ok (.putfield 32, 3) := by decide +kernel
theorem d_cReader_read_15 : decode prog_7_method_2_code 15 = .ok (.aload_n 0, 1) := by decide +kernel
theorem d_cReader_read_16 : decode prog_7_method_2_code 16 = .ok (.getfield 21, 3) := by decide +kernel
theorem d_cReader_read_19 : decode prog_7_method_2_code 19 = .ok (.invokevirtual 35, 3) := by decide +kernel
theorem d_cReader_read_22 : decode prog_7_method_2_code 22 = .ok (.aload_n 0, 1) := by decide +kernel
theorem d_cReader_read_23 : decode prog_7_method_2_code 23 = .ok (.getfield 12, 3) := by decide +kernel
theorem d_cReader_read_26 : decode prog_7_method_2_code 26 = .ok (.aload_n 1, 1) := by decide +kernel
theorem d_cReader_read_27 : decode prog_7_method_2_code 27 = .ok (.iload_n 2, 1) := by decide +kernel
theorem d_cReader_read_28 : decode prog_7_method_2_code 28 = .ok (.invokevirtual 38, 3) := by decide +kernel
theorem d_cReader_read_31 : decode prog_7_method_2_code 31 = .ok (.iconst 0, 1) := by decide +kernel
theorem d_cReader_read_32 : decode prog_7_method_2_code 32 = .ok (.istore_n 3, 1) := by decide +kernel
theorem d_cReader_read_33 : decode prog_7_method_2_code 33 = .ok (.iload_n 3, 1) := by decide +kernel
theorem d_cReader_read_34 : decode prog_7_method_2_code 34 = .ok (.sipush 480, 3) := by decide +kernel
theorem d_cReader_read_37 : decode prog_7_method_2_code 37 = .ok (.if_icmp .gt 36, 3) := by decide +kernel
theorem d_cReader_read_40 : decode prog_7_method_2_code 40 = .ok (.aload_n 0, 1) := by decide +kernel
theorem d_cReader_read_41 : decode prog_7_method_2_code 41 = .ok (.invokevirtual 42, 3) := by decide +kernel
theorem d_cReader_read_44 : decode prog_7_method_2_code 44 = .ok (.ifCond .ne 29, 3) := by decide +kernel
theorem d_cReader_read_47 : decode prog_7_method_2_code 47 = .ok (.aload_n 0, 1) := by decide +kernel
theorem d_cReader_read_48 : decode prog_7_method_2_code 48 = .ok (.invokevirtual 46, 3) := by decide +kernel
theorem d_cReader_read_51 : decode prog_7_method_2_code 51 = .ok (.ifCond .ne 16, 3) := by decide +kernel
theorem d_cReader_read_54 : decode prog_7_method_2_code 54 = .ok (.aload_n 0, 1) := by decide +kernel
theorem d_cReader_read_55 : decode prog_7_method_2_code 55 = .ok (.aload_n 0, 1) := by decide +kernel
theorem d_cReader_read_56 : decode prog_7_method_2_code 56 = .ok (.getfield 12, 3) := by decide +kernel
theorem d_cReader_read_59 : decode prog_7_method_2_code 59 = .ok (.invokevirtual 49, 3) := by decide +kernel
theorem d_cReader_read_62 : decode prog_7_method_2_code 62 = .ok (.putfield 29, 3) := by decide +kernel
theorem d_cReader_read_65 : decode prog_7_method_2_code 65 = .ok (.iconst 0, 1) := by decide +kernel
theorem d_cReader_read_66 : decode prog_7_method_2_code 66 = .ok (.ireturn, 1) := by decide +kernel
theorem d_cReader_read_67 : decode prog_7_method_2_code 67 = .ok (.iinc 3 1, 3) := by decide +kernel
theorem d_cReader_read_70 : decode prog_7_method_2_code 70 = .ok (.goto (-37), 3) := by decide +kernel
theorem d_cReader_read_73 : decode prog_7_method_2_code 73 = .ok (.aload_n 0, 1) := by decide +kernel
theorem d_cReader_read_74 : decode prog_7_method_2_code 74 = .ok (.getfield 21, 3) := by decide +kernel
theorem d_cReader_read_77 : decode prog_7_method_2_code 77 = .ok (.invokevirtual 53, 3) := by decide +kernel
theorem d_cReader_read_80 : decode prog_7_method_2_code 80 = .ok (.aload_n 0, 1) := by decide +kernel
theorem d_cReader_read_81 : decode prog_7_method_2_code 81 = .ok (.invokevirtual 56, 3) := by decide +kernel
theorem d_cReader_read_84 : decode prog_7_method_2_code 84 = .ok (.ireturn, 1) := by decide +kernel
def cReader_read_J73 (S_73 : CS) : Option (CS × Bool) := (bd (gR S_73 2 1) fun r74 => (if kd r74 = 7 then ((cPolicy_settleSets r74 S_73).bind fun q77 => ((cReader_keepsPromises q77).bind fun q81 => some (q81.1, q81.2))) else none))
def cReader_read_L33  : Nat → Int32 → CS → Option (CS × Bool)
  | 0, _, _ => none
  | n + 1, v3_33, S_33 => (if 480 < v3_33 then cReader_read_J73 S_33 else ((cReader_isDone S_33).bind fun q41 => (if q41 = true then cReader_read_J73 S_33 else ((cReader_readStatement S_33).bind fun q48 => (if q48.2 = true then (bd ((v3_33 + 1)) fun a67 => (cReader_read_L33 n) a67 q48.1) else ((cTokens_place q48.1).bind fun q59 => (bd (pI q48.1 2 3 q59) fun S62 => some (S62, false))))))))
def cReader_read (x2 : Int32) (S : CS) : Option (CS × Bool) := (bd (pI S 2 2 0) fun S2 => (bd (pI S2 2 3 (-1)) fun S7 => (bd (pI S7 2 4 (-1)) fun S12 => (bd (gR S12 2 1) fun r16 => (if kd r16 = 7 then ((cPolicy_clear r16 S12).bind fun q19 => ((cTokens_scan x2 q19).bind fun q28 => cReader_read_L33  600 0 q28)) else none)))))
set_option maxHeartbeats 4000000 in
set_option maxRecDepth 100000 in
theorem M_cReader_read {l : Launch} {D : va_G} {cA : Nat → ClassId} {b : Nat} {ad : Nat → Nat} {x2 : Int32} {S : CS} {T : MS × (Nat → Int64)} {rr : (CS × Bool)}  (h : cReader_read x2 S = some rr) : Met l y_cReader_read (Cond.code y_cReader_read prog_7_method_2_code 4 (Option.some Jvm.ClassFile.FieldType.boolean) :: TW) { frames := 6, cells := 0, slots := 0, locals := 136 } (va_Pc [.ref (b + 2), .ref (b + 1), .int x2] (Rp D cA b ad (S, T))) (Qr D cA b ad (rr.1, T) (some (.int (bI rr.2)))) 0 0 (Ab b) := by
  refine Ct_of (by decide) (Nat.le_of_ble_eq_true rfl) ?_
  intro p e R s m args below meth c ls Q H locs hR hQ hx hb hts hown hml hr hlk hC hX hS hl
  have hRf : R.frames = 6 := by rw [hR]
  have hRl : R.locals = 136 := by rw [hR]
  have hown : s.vm.findClass "TypeGuard$Reader" = some m.cls := hown
  have hl : lv_has ls 4 [(0, .ref (b + 2)), (1, .ref (b + 1)), (2, .int x2)] := hl
  rw [cReader_read] at h
  refine lv_aload_n hx hb d_cReader_read_0 rfl (lv_at hl 0 rfl) ?_
  refine lv_iconst (v := 0) hx hb d_cReader_read_1 (by decide) ?_
  refine c_put_2_2 (v := 0) hx hb hts hown hC hX hS (by rfl) (hts _ t_229) d_cReader_read_2 (fun H locs hX hS => ?_)
  obtain ⟨S2, e2, h⟩ := bd_some h
  rw [← e2] at hX
  refine lv_aload_n hx hb d_cReader_read_5 rfl (lv_at hl 0 rfl) ?_
  refine lv_iconst (v := (-1)) hx hb d_cReader_read_6 (by decide) ?_
  refine c_put_2_3 (v := (-1)) hx hb hts hown hC hX hS (by rfl) (hts _ t_231) d_cReader_read_7 (fun H locs hX hS => ?_)
  obtain ⟨S7, e7, h⟩ := bd_some h
  rw [← e7] at hX
  refine lv_aload_n hx hb d_cReader_read_10 rfl (lv_at hl 0 rfl) ?_
  refine lv_iconst (v := (-1)) hx hb d_cReader_read_11 (by decide) ?_
  refine c_put_2_4 (v := (-1)) hx hb hts hown hC hX hS (by rfl) (hts _ t_233) d_cReader_read_12 (fun H locs hX hS => ?_)
  obtain ⟨S12, e12, h⟩ := bd_some h
  rw [← e12] at hX
  refine lv_aload_n hx hb d_cReader_read_15 rfl (lv_at hl 0 rfl) ?_
  refine c_get_2_1 hx hb hts hown hC hX (by rfl) (hts _ t_228) d_cReader_read_16 ?_
  obtain ⟨r16, e16, h⟩ := bd_some h
  refine lt_R e16 ?_
  by_cases hkr16 : kd r16 = 7
  rotate_left; · rw [if_neg hkr16] at h; cases h
  rw [if_pos hkr16] at h
  obtain ⟨q19, hc19, h⟩ := Option.bind_eq_some_iff.mp h
  refine ck_V (As := []) (rest := []) (st1 := []) (M_cPolicy_clear hkr16 hc19) t_431 t_432 t_433 t_434 t_4 hx hb hts hown hC hX hS (hrc_c7 hC hX hkr16) hml hl.1 ⟨by rw [hRf]; decide, by rw [hRl]; decide⟩ ⟨rfl, rfl⟩ (n := 0) (by decide +kernel) rfl rfl rfl (lv_room (Nat.le_of_ble_eq_true rfl)) d_cReader_read_19 (fun H locs hX hS => ?_)
  refine lv_aload_n hx hb d_cReader_read_22 rfl (lv_at hl 0 rfl) ?_
  refine c_get_2_0 hx hb hts hown hC hX (by rfl) (hts _ t_227) d_cReader_read_23 ?_
  refine lv_aload_n hx hb d_cReader_read_26 rfl (lv_at hl 1 rfl) ?_
  refine lv_iload_n hx hb d_cReader_read_27 rfl (lv_at hl 2 rfl) ?_
  obtain ⟨q28, hc28, h⟩ := Option.bind_eq_some_iff.mp h
  refine ck_V (As := [.ref (b + 1), .int x2]) (rest := []) (st1 := []) (M_cTokens_scan  hc28) t_435 t_436 t_437 t_438 t_3 hx hb hts hown hC hX hS (hrc_c3 hC hX (by rfl)) hml hl.1 ⟨by rw [hRf]; decide, by rw [hRl]; decide⟩ ⟨rfl, rfl⟩ (n := 2) (by decide +kernel) rfl rfl rfl (lv_room (Nat.le_of_ble_eq_true rfl)) d_cReader_read_28 (fun H locs hX hS => ?_)
  refine lv_iconst (v := 0) hx hb d_cReader_read_31 (by decide) ?_
  refine lv_istore_n (lv' := [(3, .int 0), (0, .ref (b + 2)), (1, .ref (b + 1)), (2, .int x2)]) hx hb d_cReader_read_32 rfl hl (by decide) rfl (fun ls hl => ?_)
  have L33 : ∀ (n33 : Nat) (v3_33 : Int32) (S_33 : CS) (H : Heap) (locs : List Loc) (ls : Array Slot), hp D cA b ad (S_33, T) H → va_S (Ab b) s.heap H locs → lv_has ls 4 [(0, .ref (b + 2)), (3, .int v3_33)] → cReader_read_L33  n33 v3_33 S_33 = some rr → W p l e R s m args below meth c H locs 0 0 Q (F0 m 33 ls []) := by
    intro n33; induction n33 with
    | zero => intro v3_33 S_33 H locs ls  hX hS hl h; rw [cReader_read_L33] at h; cases h
    | succ n33 ih33 =>
      intro v3_33 S_33 H locs ls  hX hS hl h
      rw [cReader_read_L33] at h
      refine lv_iload_n hx hb d_cReader_read_33 rfl (lv_at hl 1 rfl) ?_
      refine lv_sipush (v := 480) hx hb d_cReader_read_34 (by decide) ?_
      have J73 : ∀  (H : Heap) (locs : List Loc) (ls : Array Slot), hp D cA b ad (S_33, T) H → va_S (Ab b) s.heap H locs → lv_has ls 4 [(0, .ref (b + 2))] → cReader_read_J73 S_33 = some rr → W p l e R s m args below meth c H locs 0 0 Q (F0 m 73 ls []) := by
        intro  H locs ls  hX hS hl h
        rw [cReader_read_J73] at h
        refine lv_aload_n hx hb d_cReader_read_73 rfl (lv_at hl 0 rfl) ?_
        refine c_get_2_1 hx hb hts hown hC hX (by rfl) (hts _ t_228) d_cReader_read_74 ?_
        obtain ⟨r74, e74, h⟩ := bd_some h
        refine lt_R e74 ?_
        by_cases hkr74 : kd r74 = 7
        rotate_left; · rw [if_neg hkr74] at h; cases h
        rw [if_pos hkr74] at h
        obtain ⟨q77, hc77, h⟩ := Option.bind_eq_some_iff.mp h
        refine ck_V (As := []) (rest := []) (st1 := []) (M_cPolicy_settleSets hkr74 hc77) t_713 t_714 t_715 t_716 t_4 hx hb hts hown hC hX hS (hrc_c7 hC hX hkr74) hml hl.1 ⟨by rw [hRf]; decide, by rw [hRl]; decide⟩ ⟨rfl, rfl⟩ (n := 0) (by decide +kernel) rfl rfl rfl (lv_room (Nat.le_of_ble_eq_true rfl)) d_cReader_read_77 (fun H locs hX hS => ?_)
        refine lv_aload_n hx hb d_cReader_read_80 rfl (lv_at hl 0 rfl) ?_
        obtain ⟨q81, hc81, h⟩ := Option.bind_eq_some_iff.mp h
        refine ck_V (As := []) (rest := []) (st1 := [.int (bI q81.2)]) (M_cReader_keepsPromises  hc81) t_727 t_729 p_27 t_730 t_2 hx hb hts hown hC hX hS (hrc_c2 hC hX (by rfl)) hml hl.1 ⟨by rw [hRf]; decide, by rw [hRl]; decide⟩ ⟨rfl, rfl⟩ (n := 0) (by decide +kernel) rfl rfl rfl (lv_room (Nat.le_of_ble_eq_true rfl)) d_cReader_read_81 (fun H locs hX hS => ?_)
        obtain rfl := Option.some.inj h
        exact rt_z hQ hx hb hr hX hS hlk d_cReader_read_84
      refine lv_icmp_gt hx hb d_cReader_read_37 (tgt := 73) (by decide) (fun hc => ?_) (fun hc => ?_)
      · rw [if_pos hc] at h
        exact J73  H locs ls  hX hS (lv_sub hl [0] rfl) h
      · rw [if_neg hc] at h
        refine lv_aload_n hx hb d_cReader_read_40 rfl (lv_at hl 0 rfl) ?_
        obtain ⟨q41, hc41, h⟩ := Option.bind_eq_some_iff.mp h
        refine ck_V (As := []) (rest := []) (st1 := [.int (bI q41)]) (M_cReader_isDone  hc41) t_543 t_545 p_5 t_546 t_2 hx hb hts hown hC hX hS (hrc_c2 hC hX (by rfl)) hml hl.1 ⟨by rw [hRf]; decide, by rw [hRl]; decide⟩ ⟨rfl, rfl⟩ (n := 0) (by decide +kernel) rfl rfl rfl (lv_room (Nat.le_of_ble_eq_true rfl)) d_cReader_read_41 (fun H locs hX hS => ?_)
        refine lz_ifne hx hb d_cReader_read_44 (tgt := 73) (by decide) (fun hc => ?_) (fun hc => ?_)
        · rw [if_pos hc] at h
          exact J73  H locs ls  hX hS (lv_sub hl [0] rfl) h
        · rw [if_neg hc] at h
          refine lv_aload_n hx hb d_cReader_read_47 rfl (lv_at hl 0 rfl) ?_
          obtain ⟨q48, hc48, h⟩ := Option.bind_eq_some_iff.mp h
          refine ck_V (As := []) (rest := []) (st1 := [.int (bI q48.2)]) (M_cReader_readStatement  hc48) t_551 t_553 p_6 t_554 t_2 hx hb hts hown hC hX hS (hrc_c2 hC hX (by rfl)) hml hl.1 ⟨by rw [hRf]; decide, by rw [hRl]; decide⟩ ⟨rfl, rfl⟩ (n := 0) (by decide +kernel) rfl rfl rfl (lv_room (Nat.le_of_ble_eq_true rfl)) d_cReader_read_48 (fun H locs hX hS => ?_)
          refine lz_ifne hx hb d_cReader_read_51 (tgt := 67) (by decide) (fun hc => ?_) (fun hc => ?_)
          · rw [if_pos hc] at h
            obtain ⟨a67, e67, h⟩ := bd_some h
            refine lv_iinc (v := a67) (lv' := [(3, .int a67), (0, .ref (b + 2))]) hx hb d_cReader_read_67 hl (k := 1) rfl e67.symm (by decide) rfl (fun ls hl => ?_)
            refine lv_goto hx hb d_cReader_read_70 (tgt := 33) (by decide) ?_
            exact ih33 a67 q48.1 H locs ls  hX hS (lv_sub hl [1, 0] rfl) h
          · rw [if_neg hc] at h
            refine lv_aload_n hx hb d_cReader_read_54 rfl (lv_at hl 0 rfl) ?_
            refine lv_aload_n hx hb d_cReader_read_55 rfl (lv_at hl 0 rfl) ?_
            refine c_get_2_0 hx hb hts hown hC hX (by rfl) (hts _ t_227) d_cReader_read_56 ?_
            obtain ⟨q59, hc59, h⟩ := Option.bind_eq_some_iff.mp h
            refine ck_V (As := []) (rest := [.ref (b + 2)]) (st1 := [.int q59, .ref (b + 2)]) (M_cTokens_place  hc59) t_579 t_580 t_581 t_582 t_3 hx hb hts hown hC hX hS (hrc_c3 hC hX (by rfl)) hml hl.1 ⟨by rw [hRf]; decide, by rw [hRl]; decide⟩ ⟨rfl, rfl⟩ (n := 0) (by decide +kernel) rfl rfl rfl (lv_room (Nat.le_of_ble_eq_true rfl)) d_cReader_read_59 (fun H locs hX hS => ?_)
            refine c_put_2_3 (v := q59) hx hb hts hown hC hX hS (by rfl) (hts _ t_231) d_cReader_read_62 (fun H locs hX hS => ?_)
            obtain ⟨S62, e62, h⟩ := bd_some h
            rw [← e62] at hX
            refine lv_iconst (v := 0) hx hb d_cReader_read_65 (by decide) ?_
            obtain rfl := Option.some.inj h
            exact rt_zf hQ hx hb hr hX hS hlk d_cReader_read_66
  exact L33 600 0 q28 H locs ls  hX hS (lv_sub hl [1, 0] rfl) h
abbrev y_cReader_exchange : MethodName := ({ cls := "TypeGuard$Reader", name := "exchange", desc := "(LTypeGuard$Policy;)LTypeGuard$Policy;" } : Jvm.MethodName)
theorem d_cReader_exchange_0 : decode prog_7_method_3_code 0 = .ok (.aload_n 0, 1) := by decide +kernel
theorem d_cReader_exchange_1 : decode prog_7_method_3_code 1 = .ok (.getfield 21, 3) := by decide +kernel
theorem d_cReader_exchange_4 : decode prog_7_method_3_code 4 = .ok (.astore_n 2, 1) := by decide +kernel
theorem d_cReader_exchange_5 : decode prog_7_method_3_code 5 = .ok (.aload_n 0, 1) := by decide +kernel
theorem d_cReader_exchange_6 : decode prog_7_method_3_code 6 = .ok (.aload_n 1, 1) := by decide +kernel
theorem d_cReader_exchange_7 : decode prog_7_method_3_code 7 = .ok (.putfield 21, 3) := by decide +kernel
theorem d_cReader_exchange_10 : decode prog_7_method_3_code 10 = .ok (.aload_n 2, 1) := by decide +kernel
theorem d_cReader_exchange_11 : decode prog_7_method_3_code 11 = .ok (.areturn, 1) := by decide +kernel
def cReader_exchange (x1 : Nat) (S : CS) : Option (CS × Nat) := (bd (gR S 2 1) fun r1 => (if kd r1 = 7 then (bd (pR S 2 1 x1) fun S7 => some (S7, r1)) else none))
set_option maxHeartbeats 4000000 in
set_option maxRecDepth 100000 in
theorem M_cReader_exchange {l : Launch} {D : va_G} {cA : Nat → ClassId} {b : Nat} {ad : Nat → Nat} {x1 : Nat} {S : CS} {T : MS × (Nat → Int64)} {rr : (CS × Nat)} (hk1 : kd x1 = 7) (h : cReader_exchange x1 S = some rr) : Met l y_cReader_exchange (Cond.code y_cReader_exchange prog_7_method_3_code 3 (Option.some (Jvm.ClassFile.FieldType.object "TypeGuard$Policy")) :: TW) { frames := 0, cells := 0, slots := 0, locals := 0 } (va_Pc [.ref (b + 2), .ref (b + x1)] (Rp D cA b ad (S, T))) (Qr D cA b ad (rr.1, T) (some (.ref (b + rr.2)))) 0 0 (Ab b) := by
  refine Ct_of (by decide) (Nat.le_of_ble_eq_true rfl) ?_
  intro p e R s m args below meth c ls Q H locs hR hQ hx hb hts hown hml hr hlk hC hX hS hl
  have hRf : R.frames = 0 := by rw [hR]
  have hRl : R.locals = 0 := by rw [hR]
  have hown : s.vm.findClass "TypeGuard$Reader" = some m.cls := hown
  have hl : lv_has ls 3 [(0, .ref (b + 2)), (1, .ref (b + x1))] := hl
  rw [cReader_exchange] at h
  refine lv_aload_n hx hb d_cReader_exchange_0 rfl (lv_at hl 0 rfl) ?_
  refine c_get_2_1 hx hb hts hown hC hX (by rfl) (hts _ t_228) d_cReader_exchange_1 ?_
  obtain ⟨r1, e1, h⟩ := bd_some h
  refine lt_R e1 ?_
  by_cases hkr1 : kd r1 = 7
  rotate_left; · rw [if_neg hkr1] at h; cases h
  rw [if_pos hkr1] at h
  refine lv_astore_n (lv' := [(2, .ref (b + r1)), (0, .ref (b + 2)), (1, .ref (b + x1))]) hx hb d_cReader_exchange_4 rfl hl (by decide) rfl (fun ls hl => ?_)
  refine lv_aload_n hx hb d_cReader_exchange_5 rfl (lv_at hl 1 rfl) ?_
  refine lv_aload_n hx hb d_cReader_exchange_6 rfl (lv_at hl 2 rfl) ?_
  refine c_put_2_1 (v := x1) hx hb hts hown hC hX hS (by rfl) (hts _ t_228) d_cReader_exchange_7 (fun H locs hX hS => ?_)
  obtain ⟨S7, e7, h⟩ := bd_some h
  rw [← e7] at hX
  refine lv_aload_n hx hb d_cReader_exchange_10 rfl (lv_at hl 0 rfl) ?_
  obtain rfl := Option.some.inj h
  exact rt_r hQ hx hb hr hX hS hlk d_cReader_exchange_11
abbrev y_cG_fault : MethodName := ({ cls := "TypeGuard", name := "fault", desc := "(I)I" } : Jvm.MethodName)
theorem d_cG_fault_0 : decode prog_1_method_4_code 0 = .ok (.iload_n 1, 1) := by decide +kernel
theorem d_cG_fault_1 : decode prog_1_method_4_code 1 = .ok (.lookupswitch 43 #[(0, 27), (1, 35)], 27) := by decide +kernel
theorem d_cG_fault_28 : decode prog_1_method_4_code 28 = .ok (.aload_n 0, 1) := by decide +kernel
theorem d_cG_fault_29 : decode prog_1_method_4_code 29 = .ok (.getfield 16, 3) := by decide +kernel
theorem d_cG_fault_32 : decode prog_1_method_4_code 32 = .ok (.getfield 73, 3) := by decide +kernel
theorem d_cG_fault_35 : decode prog_1_method_4_code 35 = .ok (.ireturn, 1) := by decide +kernel
theorem d_cG_fault_36 : decode prog_1_method_4_code 36 = .ok (.aload_n 0, 1) := by decide +kernel
theorem d_cG_fault_37 : decode prog_1_method_4_code 37 = .ok (.getfield 16, 3) := by decide +kernel
theorem d_cG_fault_40 : decode prog_1_method_4_code 40 = .ok (.getfield 76, 3) := by decide +kernel
theorem d_cG_fault_43 : decode prog_1_method_4_code 43 = .ok (.ireturn, 1) := by decide +kernel
theorem d_cG_fault_44 : decode prog_1_method_4_code 44 = .ok (.iconst (-1), 1) := by decide +kernel
theorem d_cG_fault_45 : decode prog_1_method_4_code 45 = .ok (.ireturn, 1) := by decide +kernel
def cG_fault (x1 : Int32) (S : CS) : Option Int32 := (if x1 = 0 then some (gI S 2 2) else (if x1 = 1 then some (gI S 2 3) else some (-1)))
set_option maxHeartbeats 4000000 in
set_option maxRecDepth 100000 in
theorem M_cG_fault {l : Launch} {D : va_G} {cA : Nat → ClassId} {b : Nat} {ad : Nat → Nat} {x1 : Int32} {S : CS} {T : MS × (Nat → Int64)} {rr : Int32}  (h : cG_fault x1 S = some rr) : Met l y_cG_fault (Cond.code y_cG_fault prog_1_method_4_code 2 (Option.some Jvm.ClassFile.FieldType.int) :: TW) { frames := 0, cells := 0, slots := 0, locals := 0 } (va_Pc [.ref (b + 0), .int x1] (Rp D cA b ad (S, T))) (Qr D cA b ad (S, T) (some (.int rr))) 0 0 (Ab b) := by
  refine Ct_of (by decide) (Nat.le_of_ble_eq_true rfl) ?_
  intro p e R s m args below meth c ls Q H locs hR hQ hx hb hts hown hml hr hlk hC hX hS hl
  have hRf : R.frames = 0 := by rw [hR]
  have hRl : R.locals = 0 := by rw [hR]
  have hown : s.vm.findClass "TypeGuard" = some m.cls := hown
  have hl : lv_has ls 2 [(0, .ref (b + 0)), (1, .int x1)] := hl
  rw [cG_fault] at h
  refine lv_iload_n hx hb d_cG_fault_0 rfl (lv_at hl 1 rfl) ?_
  by_cases hc0 : x1 = 0
  · rw [if_pos hc0] at h
    refine lk_in (k := 0) hx hb d_cG_fault_1 hc0 (off := 27) (by decide) (by decide) (tgt := 28) (by decide) ?_
    refine lv_aload_n hx hb d_cG_fault_28 rfl (lv_at hl 0 rfl) ?_
    refine c_get_0_2 hx hb hts hown hC hX (by rfl) (hts _ t_330) d_cG_fault_29 ?_
    refine c_get_2_2N hx hb hts hown hC hX (by rfl) (va_Nw.use rfl (hC.2.1 _ t_230)) d_cG_fault_32 ?_
    obtain rfl := Option.some.inj h
    exact rt_i hQ hx hb hr hX hS hlk d_cG_fault_35
  rw [if_neg hc0] at h
  by_cases hc1 : x1 = 1
  · rw [if_pos hc1] at h
    refine lk_in (k := 1) hx hb d_cG_fault_1 hc1 (off := 35) (by decide) (by decide) (tgt := 36) (by decide) ?_
    refine lv_aload_n hx hb d_cG_fault_36 rfl (lv_at hl 0 rfl) ?_
    refine c_get_0_2 hx hb hts hown hC hX (by rfl) (hts _ t_330) d_cG_fault_37 ?_
    refine c_get_2_3N hx hb hts hown hC hX (by rfl) (va_Nw.use rfl (hC.2.1 _ t_232)) d_cG_fault_40 ?_
    obtain rfl := Option.some.inj h
    exact rt_i hQ hx hb hr hX hS hlk d_cG_fault_43
  rw [if_neg hc1] at h
  refine lk_out (off := 43) hx hb d_cG_fault_1 (by decide) (by rw [lv_osw hc0 (by decide), lv_osw hc1 (by decide)]; rfl) (tgt := 44) (by decide) ?_
  refine lv_iconst (v := (-1)) hx hb d_cG_fault_44 (by decide) ?_
  obtain rfl := Option.some.inj h
  exact rt_i hQ hx hb hr hX hS hlk d_cG_fault_45
abbrev y_cG_count : MethodName := ({ cls := "TypeGuard", name := "count", desc := "(I)I" } : Jvm.MethodName)
theorem d_cG_count_0 : decode prog_1_method_5_code 0 = .ok (.iload_n 1, 1) := by decide +kernel
theorem d_cG_count_1 : decode prog_1_method_5_code 1 = .ok (.tableswitch 90 0 5 #[39, 50, 61, 72, 80, 85], 39) := by decide +kernel
theorem d_cG_count_40 : decode prog_1_method_5_code 40 = .ok (.aload_n 0, 1) := by decide +kernel
theorem d_cG_count_41 : decode prog_1_method_5_code 41 = .ok (.getfield 23, 3) := by decide +kernel
theorem d_cG_count_44 : decode prog_1_method_5_code 44 = .ok (.getfield 79, 3) := by decide +kernel
theorem d_cG_count_47 : decode prog_1_method_5_code 47 = .ok (.getfield 83, 3) := by decide +kernel
theorem d_cG_count_50 : decode prog_1_method_5_code 50 = .ok (.ireturn, 1) := by decide +kernel
theorem d_cG_count_51 : decode prog_1_method_5_code 51 = .ok (.aload_n 0, 1) := by decide +kernel
theorem d_cG_count_52 : decode prog_1_method_5_code 52 = .ok (.getfield 23, 3) := by decide +kernel
theorem d_cG_count_55 : decode prog_1_method_5_code 55 = .ok (.getfield 88, 3) := by decide +kernel
theorem d_cG_count_58 : decode prog_1_method_5_code 58 = .ok (.getfield 83, 3) := by decide +kernel
theorem d_cG_count_61 : decode prog_1_method_5_code 61 = .ok (.ireturn, 1) := by decide +kernel
theorem d_cG_count_62 : decode prog_1_method_5_code 62 = .ok (.aload_n 0, 1) := by decide +kernel
theorem d_cG_count_63 : decode prog_1_method_5_code 63 = .ok (.getfield 23, 3) := by decide +kernel
theorem d_cG_count_66 : decode prog_1_method_5_code 66 = .ok (.getfield 91, 3) := by decide +kernel
theorem d_cG_count_69 : decode prog_1_method_5_code 69 = .ok (.getfield 83, 3) := by decide +kernel
theorem d_cG_count_72 : decode prog_1_method_5_code 72 = .ok (.ireturn, 1) := by decide +kernel
theorem d_cG_count_73 : decode prog_1_method_5_code 73 = .ok (.aload_n 0, 1) := by decide +kernel
theorem d_cG_count_74 : decode prog_1_method_5_code 74 = .ok (.getfield 23, 3) := by decide +kernel
theorem d_cG_count_77 : decode prog_1_method_5_code 77 = .ok (.getfield 94, 3) := by decide +kernel
theorem d_cG_count_80 : decode prog_1_method_5_code 80 = .ok (.ireturn, 1) := by decide +kernel
theorem d_cG_count_81 : decode prog_1_method_5_code 81 = .ok (.aload_n 0, 1) := by decide +kernel
theorem d_cG_count_82 : decode prog_1_method_5_code 82 = .ok (.getfield 70, 3) := by decide +kernel
theorem d_cG_count_85 : decode prog_1_method_5_code 85 = .ok (.ireturn, 1) := by decide +kernel
theorem d_cG_count_86 : decode prog_1_method_5_code 86 = .ok (.aload_n 0, 1) := by decide +kernel
theorem d_cG_count_87 : decode prog_1_method_5_code 87 = .ok (.getfield 51, 3) := by decide +kernel
theorem d_cG_count_90 : decode prog_1_method_5_code 90 = .ok (.ireturn, 1) := by decide +kernel
theorem d_cG_count_91 : decode prog_1_method_5_code 91 = .ok (.iconst (-1), 1) := by decide +kernel
theorem d_cG_count_92 : decode prog_1_method_5_code 92 = .ok (.ireturn, 1) := by decide +kernel
def cG_count (x1 : Int32) (S : CS) : Option Int32 := (if x1 = 0 then (bd (gR S 0 3) fun r41 => (if kd r41 = 7 then some (gI S (r41 + 1) 1) else none)) else (if x1 = 1 then (bd (gR S 0 3) fun r52 => (if kd r52 = 7 then some (gI S (r52 + 5) 1) else none)) else (if x1 = 2 then (bd (gR S 0 3) fun r63 => (if kd r63 = 7 then some (gI S (r63 + 7) 1) else none)) else (if x1 = 3 then (bd (gR S 0 3) fun r74 => (if kd r74 = 7 then some (gI S r74 8) else none)) else (if x1 = 4 then some (gI S 0 4) else (if x1 = 5 then some (gI S 0 1) else some (-1)))))))
set_option maxHeartbeats 4000000 in
set_option maxRecDepth 100000 in
theorem M_cG_count {l : Launch} {D : va_G} {cA : Nat → ClassId} {b : Nat} {ad : Nat → Nat} {x1 : Int32} {S : CS} {T : MS × (Nat → Int64)} {rr : Int32}  (h : cG_count x1 S = some rr) : Met l y_cG_count (Cond.code y_cG_count prog_1_method_5_code 2 (Option.some Jvm.ClassFile.FieldType.int) :: TW) { frames := 0, cells := 0, slots := 0, locals := 0 } (va_Pc [.ref (b + 0), .int x1] (Rp D cA b ad (S, T))) (Qr D cA b ad (S, T) (some (.int rr))) 0 0 (Ab b) := by
  refine Ct_of (by decide) (Nat.le_of_ble_eq_true rfl) ?_
  intro p e R s m args below meth c ls Q H locs hR hQ hx hb hts hown hml hr hlk hC hX hS hl
  have hRf : R.frames = 0 := by rw [hR]
  have hRl : R.locals = 0 := by rw [hR]
  have hown : s.vm.findClass "TypeGuard" = some m.cls := hown
  have hl : lv_has ls 2 [(0, .ref (b + 0)), (1, .int x1)] := hl
  rw [cG_count] at h
  refine lv_iload_n hx hb d_cG_count_0 rfl (lv_at hl 1 rfl) ?_
  by_cases hc0 : x1 = 0
  · rw [if_pos hc0] at h
    refine tb_in (k := 0) hx hb d_cG_count_1 hc0 (off := 39) (by decide) (by decide) (by decide) (tgt := 40) (by decide) ?_
    refine lv_aload_n hx hb d_cG_count_40 rfl (lv_at hl 0 rfl) ?_
    refine c_get_0_3 hx hb hts hown hC hX (by rfl) (hts _ t_331) d_cG_count_41 ?_
    obtain ⟨r41, e41, h⟩ := bd_some h
    refine lt_R e41 ?_
    by_cases hkr41 : kd r41 = 7
    rotate_left; · rw [if_neg hkr41] at h; cases h
    rw [if_pos hkr41] at h
    refine c_get_7_0N (k := r41) hx hb hts hown hC hX hkr41 (va_Nw.use rfl (hC.2.1 _ t_186)) d_cG_count_44 ?_
    refine c_get_8_1N (k := (r41 + 1)) hx hb hts hown hC hX (kx_7_1 hkr41) (va_Nw.use rfl (hC.2.1 _ t_81)) d_cG_count_47 ?_
    obtain rfl := Option.some.inj h
    exact rt_i hQ hx hb hr hX hS hlk d_cG_count_50
  rw [if_neg hc0] at h
  by_cases hc1 : x1 = 1
  · rw [if_pos hc1] at h
    refine tb_in (k := 1) hx hb d_cG_count_1 hc1 (off := 50) (by decide) (by decide) (by decide) (tgt := 51) (by decide) ?_
    refine lv_aload_n hx hb d_cG_count_51 rfl (lv_at hl 0 rfl) ?_
    refine c_get_0_3 hx hb hts hown hC hX (by rfl) (hts _ t_331) d_cG_count_52 ?_
    obtain ⟨r52, e52, h⟩ := bd_some h
    refine lt_R e52 ?_
    by_cases hkr52 : kd r52 = 7
    rotate_left; · rw [if_neg hkr52] at h; cases h
    rw [if_pos hkr52] at h
    refine c_get_7_2N (k := r52) hx hb hts hown hC hX hkr52 (va_Nw.use rfl (hC.2.1 _ t_191)) d_cG_count_55 ?_
    refine c_get_8_1N (k := (r52 + 5)) hx hb hts hown hC hX (kx_7_5 hkr52) (va_Nw.use rfl (hC.2.1 _ t_81)) d_cG_count_58 ?_
    obtain rfl := Option.some.inj h
    exact rt_i hQ hx hb hr hX hS hlk d_cG_count_61
  rw [if_neg hc1] at h
  by_cases hc2 : x1 = 2
  · rw [if_pos hc2] at h
    refine tb_in (k := 2) hx hb d_cG_count_1 hc2 (off := 61) (by decide) (by decide) (by decide) (tgt := 62) (by decide) ?_
    refine lv_aload_n hx hb d_cG_count_62 rfl (lv_at hl 0 rfl) ?_
    refine c_get_0_3 hx hb hts hown hC hX (by rfl) (hts _ t_331) d_cG_count_63 ?_
    obtain ⟨r63, e63, h⟩ := bd_some h
    refine lt_R e63 ?_
    by_cases hkr63 : kd r63 = 7
    rotate_left; · rw [if_neg hkr63] at h; cases h
    rw [if_pos hkr63] at h
    refine c_get_7_3N (k := r63) hx hb hts hown hC hX hkr63 (va_Nw.use rfl (hC.2.1 _ t_194)) d_cG_count_66 ?_
    refine c_get_8_1N (k := (r63 + 7)) hx hb hts hown hC hX (kx_7_7 hkr63) (va_Nw.use rfl (hC.2.1 _ t_81)) d_cG_count_69 ?_
    obtain rfl := Option.some.inj h
    exact rt_i hQ hx hb hr hX hS hlk d_cG_count_72
  rw [if_neg hc2] at h
  by_cases hc3 : x1 = 3
  · rw [if_pos hc3] at h
    refine tb_in (k := 3) hx hb d_cG_count_1 hc3 (off := 72) (by decide) (by decide) (by decide) (tgt := 73) (by decide) ?_
    refine lv_aload_n hx hb d_cG_count_73 rfl (lv_at hl 0 rfl) ?_
    refine c_get_0_3 hx hb hts hown hC hX (by rfl) (hts _ t_331) d_cG_count_74 ?_
    obtain ⟨r74, e74, h⟩ := bd_some h
    refine lt_R e74 ?_
    by_cases hkr74 : kd r74 = 7
    rotate_left; · rw [if_neg hkr74] at h; cases h
    rw [if_pos hkr74] at h
    refine c_get_7_8N (k := r74) hx hb hts hown hC hX hkr74 (va_Nw.use rfl (hC.2.1 _ t_207)) d_cG_count_77 ?_
    obtain rfl := Option.some.inj h
    exact rt_i hQ hx hb hr hX hS hlk d_cG_count_80
  rw [if_neg hc3] at h
  by_cases hc4 : x1 = 4
  · rw [if_pos hc4] at h
    refine tb_in (k := 4) hx hb d_cG_count_1 hc4 (off := 80) (by decide) (by decide) (by decide) (tgt := 81) (by decide) ?_
    refine lv_aload_n hx hb d_cG_count_81 rfl (lv_at hl 0 rfl) ?_
    refine c_get_0_4 hx hb hts hown hC hX (by rfl) (hts _ t_332) d_cG_count_82 ?_
    obtain rfl := Option.some.inj h
    exact rt_i hQ hx hb hr hX hS hlk d_cG_count_85
  rw [if_neg hc4] at h
  by_cases hc5 : x1 = 5
  · rw [if_pos hc5] at h
    refine tb_in (k := 5) hx hb d_cG_count_1 hc5 (off := 85) (by decide) (by decide) (by decide) (tgt := 86) (by decide) ?_
    refine lv_aload_n hx hb d_cG_count_86 rfl (lv_at hl 0 rfl) ?_
    refine c_get_0_1 hx hb hts hown hC hX (by rfl) (hts _ t_329) d_cG_count_87 ?_
    obtain rfl := Option.some.inj h
    exact rt_i hQ hx hb hr hX hS hlk d_cG_count_90
  rw [if_neg hc5] at h
  refine tb_out hx hb d_cG_count_1 (by have n0 := ni_ne (a := 0) (by decide) hc0; have n1 := ni_ne (a := 1) (by decide) hc1; have n2 := ni_ne (a := 2) (by decide) hc2; have n3 := ni_ne (a := 3) (by decide) hc3; have n4 := ni_ne (a := 4) (by decide) hc4; have n5 := ni_ne (a := 5) (by decide) hc5; omega) (tgt := 91) (by decide) ?_
  refine lv_iconst (v := (-1)) hx hb d_cG_count_91 (by decide) ?_
  obtain rfl := Option.some.inj h
  exact rt_i hQ hx hb hr hX hS hlk d_cG_count_92
abbrev y_cG_areKnown : MethodName := ({ cls := "TypeGuard", name := "areKnown", desc := "(III)Z" } : Jvm.MethodName)
theorem d_cG_areKnown_0 : decode prog_1_method_21_code 0 = .ok (.aload_n 0, 1) := by decide +kernel
theorem d_cG_areKnown_1 : decode prog_1_method_21_code 1 = .ok (.getfield 23, 3) := by decide +kernel
theorem d_cG_areKnown_4 : decode prog_1_method_21_code 4 = .ok (.getfield 79, 3) := by decide +kernel
theorem d_cG_areKnown_7 : decode prog_1_method_21_code 7 = .ok (.iload_n 1, 1) := by decide +kernel
theorem d_cG_areKnown_8 : decode prog_1_method_21_code 8 = .ok (.invokevirtual 97, 3) := by decide +kernel
theorem d_cG_areKnown_11 : decode prog_1_method_21_code 11 = .ok (.ifCond .eq 35, 3) := by decide +kernel
theorem d_cG_areKnown_14 : decode prog_1_method_21_code 14 = .ok (.aload_n 0, 1) := by decide +kernel
theorem d_cG_areKnown_15 : decode prog_1_method_21_code 15 = .ok (.getfield 23, 3) := by decide +kernel
theorem d_cG_areKnown_18 : decode prog_1_method_21_code 18 = .ok (.getfield 79, 3) := by decide +kernel
theorem d_cG_areKnown_21 : decode prog_1_method_21_code 21 = .ok (.iload_n 2, 1) := by decide +kernel
theorem d_cG_areKnown_22 : decode prog_1_method_21_code 22 = .ok (.invokevirtual 97, 3) := by decide +kernel
theorem d_cG_areKnown_25 : decode prog_1_method_21_code 25 = .ok (.ifCond .eq 21, 3) := by decide +kernel
theorem d_cG_areKnown_28 : decode prog_1_method_21_code 28 = .ok (.aload_n 0, 1) := by decide +kernel
theorem d_cG_areKnown_29 : decode prog_1_method_21_code 29 = .ok (.getfield 23, 3) := by decide +kernel
theorem d_cG_areKnown_32 : decode prog_1_method_21_code 32 = .ok (.getfield 88, 3) := by decide +kernel
theorem d_cG_areKnown_35 : decode prog_1_method_21_code 35 = .ok (.iload_n 3, 1) := by decide +kernel
theorem d_cG_areKnown_36 : decode prog_1_method_21_code 36 = .ok (.invokevirtual 97, 3) := by decide +kernel
theorem d_cG_areKnown_39 : decode prog_1_method_21_code 39 = .ok (.ifCond .eq 7, 3) := by decide +kernel
theorem d_cG_areKnown_42 : decode prog_1_method_21_code 42 = .ok (.iconst 1, 1) := by decide +kernel
theorem d_cG_areKnown_43 : decode prog_1_method_21_code 43 = .ok (.goto 4, 3) := by decide +kernel
theorem d_cG_areKnown_46 : decode prog_1_method_21_code 46 = .ok (.iconst 0, 1) := by decide +kernel
theorem d_cG_areKnown_47 : decode prog_1_method_21_code 47 = .ok (.ireturn, 1) := by decide +kernel
def cG_areKnown (x1 : Int32) (x2 : Int32) (x3 : Int32) (S : CS) : Option Bool := (bd (gR S 0 3) fun r1 => (if kd r1 = 7 then ((cNames_hasNumber (r1 + 1) x1 S).bind fun q8 => (if q8 = true then (bd (gR S 0 3) fun r15 => (if kd r15 = 7 then ((cNames_hasNumber (r15 + 1) x2 S).bind fun q22 => (if q22 = true then (bd (gR S 0 3) fun r29 => (if kd r29 = 7 then ((cNames_hasNumber (r29 + 5) x3 S).bind fun q36 => (if q36 = true then some true else some false)) else none)) else some false)) else none)) else some false)) else none))
set_option maxHeartbeats 4000000 in
set_option maxRecDepth 100000 in
theorem M_cG_areKnown {l : Launch} {D : va_G} {cA : Nat → ClassId} {b : Nat} {ad : Nat → Nat} {x1 : Int32} {x2 : Int32} {x3 : Int32} {S : CS} {T : MS × (Nat → Int64)} {rr : Bool}  (h : cG_areKnown x1 x2 x3 S = some rr) : Met l y_cG_areKnown (Cond.code y_cG_areKnown prog_1_method_21_code 4 (Option.some Jvm.ClassFile.FieldType.boolean) :: TW) { frames := 1, cells := 0, slots := 0, locals := 21 } (va_Pc [.ref (b + 0), .int x1, .int x2, .int x3] (Rp D cA b ad (S, T))) (Qr D cA b ad (S, T) (some (.int (bI rr)))) 0 0 (Ab b) := by
  refine Ct_of (by decide) (Nat.le_of_ble_eq_true rfl) ?_
  intro p e R s m args below meth c ls Q H locs hR hQ hx hb hts hown hml hr hlk hC hX hS hl
  have hRf : R.frames = 1 := by rw [hR]
  have hRl : R.locals = 21 := by rw [hR]
  have hown : s.vm.findClass "TypeGuard" = some m.cls := hown
  have hl : lv_has ls 4 [(0, .ref (b + 0)), (1, .int x1), (2, .int x2), (3, .int x3)] := hl
  rw [cG_areKnown] at h
  refine lv_aload_n hx hb d_cG_areKnown_0 rfl (lv_at hl 0 rfl) ?_
  refine c_get_0_3 hx hb hts hown hC hX (by rfl) (hts _ t_331) d_cG_areKnown_1 ?_
  obtain ⟨r1, e1, h⟩ := bd_some h
  refine lt_R e1 ?_
  by_cases hkr1 : kd r1 = 7
  rotate_left; · rw [if_neg hkr1] at h; cases h
  rw [if_pos hkr1] at h
  refine c_get_7_0N (k := r1) hx hb hts hown hC hX hkr1 (va_Nw.use rfl (hC.2.1 _ t_186)) d_cG_areKnown_4 ?_
  refine lv_iload_n hx hb d_cG_areKnown_7 rfl (lv_at hl 1 rfl) ?_
  obtain ⟨q8, hc8, h⟩ := Option.bind_eq_some_iff.mp h
  refine ck_V (As := [.int x1]) (rest := []) (st1 := [.int (bI q8)]) (M_cNames_hasNumber (kx_7_1 hkr1) hc8) t_835 t_836 t_837 t_838 t_5 hx hb hts hown hC hX hS (hrc_c8 hC hX (kx_7_1 hkr1)) hml hl.1 ⟨by rw [hRf]; decide, by rw [hRl]; decide⟩ ⟨rfl, rfl⟩ (n := 1) (by decide +kernel) rfl rfl rfl (lv_room (Nat.le_of_ble_eq_true rfl)) d_cG_areKnown_8 (fun H locs hX hS => ?_)
  refine lz_ifeq hx hb d_cG_areKnown_11 (tgt := 46) (by decide) (fun hc => ?_) (fun hc => ?_)
  · rw [if_neg hc] at h
    refine lv_iconst (v := 0) hx hb d_cG_areKnown_46 (by decide) ?_
    obtain rfl := Option.some.inj h
    exact rt_zf hQ hx hb hr hX hS hlk d_cG_areKnown_47
  · rw [if_pos hc] at h
    refine lv_aload_n hx hb d_cG_areKnown_14 rfl (lv_at hl 0 rfl) ?_
    refine c_get_0_3 hx hb hts hown hC hX (by rfl) (hts _ t_331) d_cG_areKnown_15 ?_
    obtain ⟨r15, e15, h⟩ := bd_some h
    refine lt_R e15 ?_
    by_cases hkr15 : kd r15 = 7
    rotate_left; · rw [if_neg hkr15] at h; cases h
    rw [if_pos hkr15] at h
    refine c_get_7_0N (k := r15) hx hb hts hown hC hX hkr15 (va_Nw.use rfl (hC.2.1 _ t_186)) d_cG_areKnown_18 ?_
    refine lv_iload_n hx hb d_cG_areKnown_21 rfl (lv_at hl 2 rfl) ?_
    obtain ⟨q22, hc22, h⟩ := Option.bind_eq_some_iff.mp h
    refine ck_V (As := [.int x2]) (rest := []) (st1 := [.int (bI q22)]) (M_cNames_hasNumber (kx_7_1 hkr15) hc22) t_835 t_836 t_837 t_838 t_5 hx hb hts hown hC hX hS (hrc_c8 hC hX (kx_7_1 hkr15)) hml hl.1 ⟨by rw [hRf]; decide, by rw [hRl]; decide⟩ ⟨rfl, rfl⟩ (n := 1) (by decide +kernel) rfl rfl rfl (lv_room (Nat.le_of_ble_eq_true rfl)) d_cG_areKnown_22 (fun H locs hX hS => ?_)
    refine lz_ifeq hx hb d_cG_areKnown_25 (tgt := 46) (by decide) (fun hc => ?_) (fun hc => ?_)
    · rw [if_neg hc] at h
      refine lv_iconst (v := 0) hx hb d_cG_areKnown_46 (by decide) ?_
      obtain rfl := Option.some.inj h
      exact rt_zf hQ hx hb hr hX hS hlk d_cG_areKnown_47
    · rw [if_pos hc] at h
      refine lv_aload_n hx hb d_cG_areKnown_28 rfl (lv_at hl 0 rfl) ?_
      refine c_get_0_3 hx hb hts hown hC hX (by rfl) (hts _ t_331) d_cG_areKnown_29 ?_
      obtain ⟨r29, e29, h⟩ := bd_some h
      refine lt_R e29 ?_
      by_cases hkr29 : kd r29 = 7
      rotate_left; · rw [if_neg hkr29] at h; cases h
      rw [if_pos hkr29] at h
      refine c_get_7_2N (k := r29) hx hb hts hown hC hX hkr29 (va_Nw.use rfl (hC.2.1 _ t_191)) d_cG_areKnown_32 ?_
      refine lv_iload_n hx hb d_cG_areKnown_35 rfl (lv_at hl 3 rfl) ?_
      obtain ⟨q36, hc36, h⟩ := Option.bind_eq_some_iff.mp h
      refine ck_V (As := [.int x3]) (rest := []) (st1 := [.int (bI q36)]) (M_cNames_hasNumber (kx_7_5 hkr29) hc36) t_835 t_836 t_837 t_838 t_5 hx hb hts hown hC hX hS (hrc_c8 hC hX (kx_7_5 hkr29)) hml hl.1 ⟨by rw [hRf]; decide, by rw [hRl]; decide⟩ ⟨rfl, rfl⟩ (n := 1) (by decide +kernel) rfl rfl rfl (lv_room (Nat.le_of_ble_eq_true rfl)) d_cG_areKnown_36 (fun H locs hX hS => ?_)
      refine lz_ifeq hx hb d_cG_areKnown_39 (tgt := 46) (by decide) (fun hc => ?_) (fun hc => ?_)
      · rw [if_neg hc] at h
        refine lv_iconst (v := 0) hx hb d_cG_areKnown_46 (by decide) ?_
        obtain rfl := Option.some.inj h
        exact rt_zf hQ hx hb hr hX hS hlk d_cG_areKnown_47
      · rw [if_pos hc] at h
        refine lv_iconst (v := 1) hx hb d_cG_areKnown_42 (by decide) ?_
        refine lv_goto hx hb d_cG_areKnown_43 (tgt := 47) (by decide) ?_
        obtain rfl := Option.some.inj h
        exact rt_zt hQ hx hb hr hX hS hlk d_cG_areKnown_47
abbrev y_cPolicy_permissionsInForce : MethodName := ({ cls := "TypeGuard$Policy", name := "permissionsInForce", desc := "(LTypeGuard$Rule;III)I" } : Jvm.MethodName)
theorem d_cPolicy_permissionsInForce_0 : decode prog_6_method_11_code 0 = .ok (.aload_n 1, 1) := by decide +kernel
theorem d_cPolicy_permissionsInForce_1 : decode prog_6_method_11_code 1 = .ok (.getfield 124, 3) := by decide +kernel
theorem d_cPolicy_permissionsInForce_4 : decode prog_6_method_11_code 4 = .ok (.iconst (-1), 1) := by decide +kernel
theorem d_cPolicy_permissionsInForce_5 : decode prog_6_method_11_code 5 = .ok (.if_icmp .eq 19, 3) := by decide +kernel
theorem d_cPolicy_permissionsInForce_8 : decode prog_6_method_11_code 8 = .ok (.aload_n 0, 1) := by decide +kernel
theorem d_cPolicy_permissionsInForce_9 : decode prog_6_method_11_code 9 = .ok (.getfield 37, 3) := by decide +kernel
theorem d_cPolicy_permissionsInForce_12 : decode prog_6_method_11_code 12 = .ok (.aload_n 1, 1) := by decide +kernel
theorem d_cPolicy_permissionsInForce_13 : decode prog_6_method_11_code 13 = .ok (.getfield 124, 3) := by decide +kernel
theorem d_cPolicy_permissionsInForce_16 : decode prog_6_method_11_code 16 = .ok (.baload, 1) := by decide +kernel
theorem d_cPolicy_permissionsInForce_17 : decode prog_6_method_11_code 17 = .ok (.aload_n 1, 1) := by decide +kernel
theorem d_cPolicy_permissionsInForce_18 : decode prog_6_method_11_code 18 = .ok (.getfield 127, 3) := by decide +kernel
theorem d_cPolicy_permissionsInForce_21 : decode prog_6_method_11_code 21 = .ok (.if_icmp .eq 7, 3) := by decide +kernel
theorem d_cPolicy_permissionsInForce_24 : decode prog_6_method_11_code 24 = .ok (.iconst 1, 1) := by decide +kernel
theorem d_cPolicy_permissionsInForce_25 : decode prog_6_method_11_code 25 = .ok (.goto 4, 3) := by decide +kernel
theorem d_cPolicy_permissionsInForce_28 : decode prog_6_method_11_code 28 = .ok (.iconst 0, 1) := by decide +kernel
theorem d_cPolicy_permissionsInForce_29 : decode prog_6_method_11_code 29 = .ok (.istore 5, 2) := by decide +kernel
theorem d_cPolicy_permissionsInForce_31 : decode prog_6_method_11_code 31 = .ok (.iload 5, 2) := by decide +kernel
theorem d_cPolicy_permissionsInForce_33 : decode prog_6_method_11_code 33 = .ok (.ifCond .eq 24, 3) := by decide +kernel
theorem d_cPolicy_permissionsInForce_36 : decode prog_6_method_11_code 36 = .ok (.aload_n 1, 1) := by decide +kernel
theorem d_cPolicy_permissionsInForce_37 : decode prog_6_method_11_code 37 = .ok (.iload_n 2, 1) := by decide +kernel
theorem d_cPolicy_permissionsInForce_38 : decode prog_6_method_11_code 38 = .ok (.iload_n 3, 1) := by decide +kernel
theorem d_cPolicy_permissionsInForce_39 : decode prog_6_method_11_code 39 = .ok (.iload 4, 2) := by decide +kernel
theorem d_cPolicy_permissionsInForce_41 : decode prog_6_method_11_code 41 = .ok (.invokevirtual 82, 3) := by decide +kernel
theorem d_cPolicy_permissionsInForce_44 : decode prog_6_method_11_code 44 = .ok (.ifCond .eq 13, 3) := by decide +kernel
theorem d_cPolicy_permissionsInForce_47 : decode prog_6_method_11_code 47 = .ok (.aload_n 1, 1) := by decide +kernel
theorem d_cPolicy_permissionsInForce_48 : decode prog_6_method_11_code 48 = .ok (.getfield 131, 3) := by decide +kernel
theorem d_cPolicy_permissionsInForce_51 : decode prog_6_method_11_code 51 = .ok (.iload 4, 2) := by decide +kernel
theorem d_cPolicy_permissionsInForce_53 : decode prog_6_method_11_code 53 = .ok (.iaload, 1) := by decide +kernel
theorem d_cPolicy_permissionsInForce_54 : decode prog_6_method_11_code 54 = .ok (.goto 4, 3) := by decide +kernel
theorem d_cPolicy_permissionsInForce_57 : decode prog_6_method_11_code 57 = .ok (.iconst 0, 1) := by decide +kernel
theorem d_cPolicy_permissionsInForce_58 : decode prog_6_method_11_code 58 = .ok (.ireturn, 1) := by decide +kernel
def cPolicy_permissionsInForce_J29 (v1_29 : Nat) (v2_29 : Int32) (v3_29 : Int32) (v4_29 : Int32) (s0_29 : Bool) (S_29 : CS) : Option Int32 := (if s0_29 = true then ((cRule_covers v1_29 v2_29 v3_29 v4_29 S_29).bind fun q41 => (if q41 = true then (if inbd v4_29 4 = true then some (gI S_29 (v1_29 + 3) (txN v4_29)) else none) else some 0)) else some 0)
def cPolicy_permissionsInForce_J24 (v1_24 : Nat) (v2_24 : Int32) (v3_24 : Int32) (v4_24 : Int32) (S_24 : CS) : Option Int32 := cPolicy_permissionsInForce_J29 v1_24 v2_24 v3_24 v4_24 true S_24
def cPolicy_permissionsInForce (k0 : Nat) (x1 : Nat) (x2 : Int32) (x3 : Int32) (x4 : Int32) (S : CS) : Option Int32 := (if (gI S x1 2) = (-1) then cPolicy_permissionsInForce_J24 x1 x2 x3 x4 S else (if inbd (gI S x1 2) 3 = true then (if (bI (gB S (k0 + 11) (txN (gI S x1 2)))) = (bI (gB S x1 3)) then cPolicy_permissionsInForce_J29 x1 x2 x3 x4 false S else cPolicy_permissionsInForce_J24 x1 x2 x3 x4 S) else none))
set_option maxHeartbeats 4000000 in
set_option maxRecDepth 100000 in
theorem M_cPolicy_permissionsInForce {l : Launch} {D : va_G} {cA : Nat → ClassId} {b : Nat} {ad : Nat → Nat} {k0 : Nat} {x1 : Nat} {x2 : Int32} {x3 : Int32} {x4 : Int32} {S : CS} {T : MS × (Nat → Int64)} {rr : Int32} (hk0 : kd k0 = 7) (hk1 : kd x1 = 14) (h : cPolicy_permissionsInForce k0 x1 x2 x3 x4 S = some rr) : Met l y_cPolicy_permissionsInForce (Cond.code y_cPolicy_permissionsInForce prog_6_method_11_code 6 (Option.some Jvm.ClassFile.FieldType.int) :: TW) { frames := 2, cells := 0, slots := 0, locals := 44 } (va_Pc [.ref (b + k0), .ref (b + x1), .int x2, .int x3, .int x4] (Rp D cA b ad (S, T))) (Qr D cA b ad (S, T) (some (.int rr))) 0 0 (Ab b) := by
  refine Ct_of (by decide) (Nat.le_of_ble_eq_true rfl) ?_
  intro p e R s m args below meth c ls Q H locs hR hQ hx hb hts hown hml hr hlk hC hX hS hl
  have hRf : R.frames = 2 := by rw [hR]
  have hRl : R.locals = 44 := by rw [hR]
  have hown : s.vm.findClass "TypeGuard$Policy" = some m.cls := hown
  have hl : lv_has ls 6 [(0, .ref (b + k0)), (1, .ref (b + x1)), (2, .int x2), (3, .int x3), (4, .int x4)] := hl
  rw [cPolicy_permissionsInForce] at h
  refine lv_aload_n hx hb d_cPolicy_permissionsInForce_0 rfl (lv_at hl 1 rfl) ?_
  refine c_get_14_2N (k := x1) hx hb hts hown hC hX hk1 (va_Nw.use rfl (hC.2.1 _ t_136)) d_cPolicy_permissionsInForce_1 ?_
  refine lv_iconst (v := (-1)) hx hb d_cPolicy_permissionsInForce_4 (by decide) ?_
  have J29 : ∀ (s0_29 : Bool) (H : Heap) (locs : List Loc) (ls : Array Slot), hp D cA b ad (S, T) H → va_S (Ab b) s.heap H locs → lv_has ls 6 [(1, .ref (b + x1)), (2, .int x2), (3, .int x3), (4, .int x4)] → cPolicy_permissionsInForce_J29 x1 x2 x3 x4 s0_29 S = some rr → W p l e R s m args below meth c H locs 0 0 Q (F0 m 29 ls [.int (bI s0_29)]) := by
    intro s0_29 H locs ls  hX hS hl h
    rw [cPolicy_permissionsInForce_J29] at h
    refine lv_istore (lv' := [(5, .int (bI s0_29)), (1, .ref (b + x1)), (2, .int x2), (3, .int x3), (4, .int x4)]) hx hb d_cPolicy_permissionsInForce_29 hl (by decide) rfl (fun ls hl => ?_)
    refine lv_iload hx hb d_cPolicy_permissionsInForce_31 (lv_at hl 0 rfl) ?_
    refine lz_ifeq hx hb d_cPolicy_permissionsInForce_33 (tgt := 57) (by decide) (fun hc => ?_) (fun hc => ?_)
    · rw [if_neg hc] at h
      refine lv_iconst (v := 0) hx hb d_cPolicy_permissionsInForce_57 (by decide) ?_
      obtain rfl := Option.some.inj h
      exact rt_i hQ hx hb hr hX hS hlk d_cPolicy_permissionsInForce_58
    · rw [if_pos hc] at h
      refine lv_aload_n hx hb d_cPolicy_permissionsInForce_36 rfl (lv_at hl 1 rfl) ?_
      refine lv_iload_n hx hb d_cPolicy_permissionsInForce_37 rfl (lv_at hl 2 rfl) ?_
      refine lv_iload_n hx hb d_cPolicy_permissionsInForce_38 rfl (lv_at hl 3 rfl) ?_
      refine lv_iload hx hb d_cPolicy_permissionsInForce_39 (lv_at hl 4 rfl) ?_
      obtain ⟨q41, hc41, h⟩ := Option.bind_eq_some_iff.mp h
      refine ck_V (As := [.int x2, .int x3, .int x4]) (rest := []) (st1 := [.int (bI q41)]) (M_cRule_covers hk1 hc41) t_874 t_875 t_876 t_877 t_6 hx hb hts hown hC hX hS (hrc_c14 hC hX hk1) hml hl.1 ⟨by rw [hRf]; decide, by rw [hRl]; decide⟩ ⟨rfl, rfl⟩ (n := 3) (by decide +kernel) rfl rfl rfl (lv_room (Nat.le_of_ble_eq_true rfl)) d_cPolicy_permissionsInForce_41 (fun H locs hX hS => ?_)
      refine lz_ifeq hx hb d_cPolicy_permissionsInForce_44 (tgt := 57) (by decide) (fun hc => ?_) (fun hc => ?_)
      · rw [if_neg hc] at h
        refine lv_iconst (v := 0) hx hb d_cPolicy_permissionsInForce_57 (by decide) ?_
        obtain rfl := Option.some.inj h
        exact rt_i hQ hx hb hr hX hS hlk d_cPolicy_permissionsInForce_58
      · rw [if_pos hc] at h
        refine lv_aload_n hx hb d_cPolicy_permissionsInForce_47 rfl (lv_at hl 1 rfl) ?_
        refine c_get_14_10N (k := x1) hx hb hts hown hC hX hk1 (va_Nw.use rfl (hC.2.1 _ t_155)) d_cPolicy_permissionsInForce_48 ?_
        refine lv_iload hx hb d_cPolicy_permissionsInForce_51 (lv_at hl 4 rfl) ?_
        by_cases hg53 : inbd x4 4 = true
        rotate_left; · rw [if_neg hg53] at h; cases h
        rw [if_pos hg53] at h
        refine c_ald_16 (k := (x1 + 3)) hx hb hC hX (kx_14_3 hk1) hg53 d_cPolicy_permissionsInForce_53 ?_
        refine lv_goto hx hb d_cPolicy_permissionsInForce_54 (tgt := 58) (by decide) ?_
        obtain rfl := Option.some.inj h
        exact rt_i hQ hx hb hr hX hS hlk d_cPolicy_permissionsInForce_58
  have J24 : ∀  (H : Heap) (locs : List Loc) (ls : Array Slot), hp D cA b ad (S, T) H → va_S (Ab b) s.heap H locs → lv_has ls 6 [(1, .ref (b + x1)), (2, .int x2), (3, .int x3), (4, .int x4)] → cPolicy_permissionsInForce_J24 x1 x2 x3 x4 S = some rr → W p l e R s m args below meth c H locs 0 0 Q (F0 m 24 ls []) := by
    intro  H locs ls  hX hS hl h
    rw [cPolicy_permissionsInForce_J24] at h
    refine lv_iconst (v := 1) hx hb d_cPolicy_permissionsInForce_24 (by decide) ?_
    refine lv_goto hx hb d_cPolicy_permissionsInForce_25 (tgt := 29) (by decide) ?_
    exact J29 true H locs ls  hX hS (lv_sub hl [0, 1, 2, 3] rfl) h
  refine lv_icmp_eq hx hb d_cPolicy_permissionsInForce_5 (tgt := 24) (by decide) (fun hc => ?_) (fun hc => ?_)
  · rw [if_pos hc] at h
    exact J24  H locs ls  hX hS (lv_sub hl [1, 2, 3, 4] rfl) h
  · rw [if_neg hc] at h
    refine lv_aload_n hx hb d_cPolicy_permissionsInForce_8 rfl (lv_at hl 0 rfl) ?_
    refine c_get_7_6 (k := k0) hx hb hts hown hC hX hk0 (hts _ t_200) d_cPolicy_permissionsInForce_9 ?_
    refine lv_aload_n hx hb d_cPolicy_permissionsInForce_12 rfl (lv_at hl 1 rfl) ?_
    refine c_get_14_2N (k := x1) hx hb hts hown hC hX hk1 (va_Nw.use rfl (hC.2.1 _ t_136)) d_cPolicy_permissionsInForce_13 ?_
    by_cases hg16 : inbd (gI S x1 2) 3 = true
    rotate_left; · rw [if_neg hg16] at h; cases h
    rw [if_pos hg16] at h
    refine c_ald_12 (k := (k0 + 11)) hx hb hC hX (kx_7_11 hk0) hg16 d_cPolicy_permissionsInForce_16 ?_
    refine lv_aload_n hx hb d_cPolicy_permissionsInForce_17 rfl (lv_at hl 1 rfl) ?_
    refine c_get_14_3N (k := x1) hx hb hts hown hC hX hk1 (va_Nw.use rfl (hC.2.1 _ t_138)) d_cPolicy_permissionsInForce_18 ?_
    refine lv_icmp_eq hx hb d_cPolicy_permissionsInForce_21 (tgt := 28) (by decide) (fun hc => ?_) (fun hc => ?_)
    · rw [if_pos hc] at h
      refine lv_iconst (v := 0) hx hb d_cPolicy_permissionsInForce_28 (by decide) ?_
      exact J29 false H locs ls  hX hS (lv_sub hl [1, 2, 3, 4] rfl) h
    · rw [if_neg hc] at h
      exact J24  H locs ls  hX hS (lv_sub hl [1, 2, 3, 4] rfl) h
abbrev y_cPolicy_permissionsBy : MethodName := ({ cls := "TypeGuard$Policy", name := "permissionsBy", desc := "(LTypeGuard$Word;III)I" } : Jvm.MethodName)
theorem d_cPolicy_permissionsBy_0 : decode prog_6_method_4_code 0 = .ok (.iconst 0, 1) := by decide +kernel
theorem d_cPolicy_permissionsBy_1 : decode prog_6_method_4_code 1 = .ok (.istore 5, 2) := by decide +kernel
theorem d_cPolicy_permissionsBy_3 : decode prog_6_method_4_code 3 = .ok (.iconst 0, 1) := by decide +kernel
theorem d_cPolicy_permissionsBy_4 : decode prog_6_method_4_code 4 = .ok (.istore 6, 2) := by decide +kernel
theorem d_cPolicy_permissionsBy_6 : decode prog_6_method_4_code 6 = .ok (.iload 6, 2) := by decide +kernel
theorem d_cPolicy_permissionsBy_8 : decode prog_6_method_4_code 8 = .ok (.aload_n 0, 1) := by decide +kernel
theorem d_cPolicy_permissionsBy_9 : decode prog_6_method_4_code 9 = .ok (.getfield 52, 3) := by decide +kernel
theorem d_cPolicy_permissionsBy_12 : decode prog_6_method_4_code 12 = .ok (.if_icmp .ge 43, 3) := by decide +kernel
theorem d_cPolicy_permissionsBy_15 : decode prog_6_method_4_code 15 = .ok (.aload_n 0, 1) := by decide +kernel
theorem d_cPolicy_permissionsBy_16 : decode prog_6_method_4_code 16 = .ok (.getfield 43, 3) := by decide +kernel
theorem d_cPolicy_permissionsBy_19 : decode prog_6_method_4_code 19 = .ok (.iload 6, 2) := by decide +kernel
theorem d_cPolicy_permissionsBy_21 : decode prog_6_method_4_code 21 = .ok (.aaload, 1) := by decide +kernel
theorem d_cPolicy_permissionsBy_22 : decode prog_6_method_4_code 22 = .ok (.getfield 59, 3) := by decide +kernel
theorem d_cPolicy_permissionsBy_25 : decode prog_6_method_4_code 25 = .ok (.aload_n 1, 1) := by decide +kernel
theorem d_cPolicy_permissionsBy_26 : decode prog_6_method_4_code 26 = .ok (.if_acmp .ne 23, 3) := by decide +kernel
theorem d_cPolicy_permissionsBy_29 : decode prog_6_method_4_code 29 = .ok (.iload 5, 2) := by decide +kernel
theorem d_cPolicy_permissionsBy_31 : decode prog_6_method_4_code 31 = .ok (.aload_n 0, 1) := by decide +kernel
theorem d_cPolicy_permissionsBy_32 : decode prog_6_method_4_code 32 = .ok (.aload_n 0, 1) := by decide +kernel
theorem d_cPolicy_permissionsBy_33 : decode prog_6_method_4_code 33 = .ok (.getfield 43, 3) := by decide +kernel
theorem d_cPolicy_permissionsBy_36 : decode prog_6_method_4_code 36 = .ok (.iload 6, 2) := by decide +kernel
theorem d_cPolicy_permissionsBy_38 : decode prog_6_method_4_code 38 = .ok (.aaload, 1) := by decide +kernel
theorem d_cPolicy_permissionsBy_39 : decode prog_6_method_4_code 39 = .ok (.iload_n 2, 1) := by decide +kernel
theorem d_cPolicy_permissionsBy_40 : decode prog_6_method_4_code 40 = .ok (.iload_n 3, 1) := by decide +kernel
theorem d_cPolicy_permissionsBy_41 : decode prog_6_method_4_code 41 = .ok (.iload 4, 2) := by decide +kernel
theorem d_cPolicy_permissionsBy_43 : decode prog_6_method_4_code 43 = .ok (.invokevirtual 63, 3) := by decide +kernel
theorem d_cPolicy_permissionsBy_46 : decode prog_6_method_4_code 46 = .ok (.ior, 1) := by decide +kernel
theorem d_cPolicy_permissionsBy_47 : decode prog_6_method_4_code 47 = .ok (.istore 5, 2) := by decide +kernel
theorem d_cPolicy_permissionsBy_49 : decode prog_6_method_4_code 49 = .ok (.iinc 6 1, 3) := by decide +kernel
theorem d_cPolicy_permissionsBy_52 : decode prog_6_method_4_code 52 = .ok (.goto (-46), 3) := by decide +kernel
theorem d_cPolicy_permissionsBy_55 : decode prog_6_method_4_code 55 = .ok (.iload 5, 2) := by decide +kernel
theorem d_cPolicy_permissionsBy_57 : decode prog_6_method_4_code 57 = .ok (.ireturn, 1) := by decide +kernel
def cPolicy_permissionsBy_L6 (v0_6 : Nat) (v1_6 : Nat) (v2_6 : Int32) (v3_6 : Int32) (v4_6 : Int32) (S_6 : CS) : Nat → Int32 → Int32 → Option Int32
  | 0, _, _ => none
  | n + 1, v5_6, v6_6 => (if (gI S_6 v0_6 8) ≤ v6_6 then some v5_6 else (if inbd v6_6 24 = true then (bd (((v0_6 + 12) + (9 + 4 * txN v6_6))) fun a21 => (bd (gR S_6 a21 0) fun r22 => (if r22 < 15 then (if r22 = v1_6 then (if inbd v6_6 24 = true then (bd (((v0_6 + 12) + (9 + 4 * txN v6_6))) fun a38 => ((cPolicy_permissionsInForce v0_6 a38 v2_6 v3_6 v4_6 S_6).bind fun q43 => (bd ((v5_6 ||| q43)) fun a47 => (bd ((v6_6 + 1)) fun a49 => (cPolicy_permissionsBy_L6 v0_6 v1_6 v2_6 v3_6 v4_6 S_6 n) a47 a49)))) else none) else (bd ((v6_6 + 1)) fun a49 => (cPolicy_permissionsBy_L6 v0_6 v1_6 v2_6 v3_6 v4_6 S_6 n) v5_6 a49)) else none))) else none))
def cPolicy_permissionsBy (k0 : Nat) (x1 : Nat) (x2 : Int32) (x3 : Int32) (x4 : Int32) (S : CS) : Option Int32 := cPolicy_permissionsBy_L6 k0 x1 x2 x3 x4 S 600 0 0
set_option maxHeartbeats 4000000 in
set_option maxRecDepth 100000 in
theorem M_cPolicy_permissionsBy {l : Launch} {D : va_G} {cA : Nat → ClassId} {b : Nat} {ad : Nat → Nat} {k0 : Nat} {x1 : Nat} {x2 : Int32} {x3 : Int32} {x4 : Int32} {S : CS} {T : MS × (Nat → Int64)} {rr : Int32} (hk0 : kd k0 = 7) (hk1 : x1 < 15) (h : cPolicy_permissionsBy k0 x1 x2 x3 x4 S = some rr) : Met l y_cPolicy_permissionsBy (Cond.code y_cPolicy_permissionsBy prog_6_method_4_code 7 (Option.some Jvm.ClassFile.FieldType.int) :: TW) { frames := 3, cells := 0, slots := 0, locals := 69 } (va_Pc [.ref (b + k0), .ref (ad x1), .int x2, .int x3, .int x4] (Rp D cA b ad (S, T))) (Qr D cA b ad (S, T) (some (.int rr))) 0 0 (Ab b) := by
  refine Ct_of (by decide) (Nat.le_of_ble_eq_true rfl) ?_
  intro p e R s m args below meth c ls Q H locs hR hQ hx hb hts hown hml hr hlk hC hX hS hl
  have hRf : R.frames = 3 := by rw [hR]
  have hRl : R.locals = 69 := by rw [hR]
  have hown : s.vm.findClass "TypeGuard$Policy" = some m.cls := hown
  have hl : lv_has ls 7 [(0, .ref (b + k0)), (1, .ref (ad x1)), (2, .int x2), (3, .int x3), (4, .int x4)] := hl
  rw [cPolicy_permissionsBy] at h
  refine lv_iconst (v := 0) hx hb d_cPolicy_permissionsBy_0 (by decide) ?_
  refine lv_istore (lv' := [(5, .int 0), (0, .ref (b + k0)), (1, .ref (ad x1)), (2, .int x2), (3, .int x3), (4, .int x4)]) hx hb d_cPolicy_permissionsBy_1 hl (by decide) rfl (fun ls hl => ?_)
  refine lv_iconst (v := 0) hx hb d_cPolicy_permissionsBy_3 (by decide) ?_
  refine lv_istore (lv' := [(6, .int 0), (5, .int 0), (0, .ref (b + k0)), (1, .ref (ad x1)), (2, .int x2), (3, .int x3), (4, .int x4)]) hx hb d_cPolicy_permissionsBy_4 hl (by decide) rfl (fun ls hl => ?_)
  have L6 : ∀ (n6 : Nat) (v5_6 : Int32) (v6_6 : Int32) (H : Heap) (locs : List Loc) (ls : Array Slot), hp D cA b ad (S, T) H → va_S (Ab b) s.heap H locs → lv_has ls 7 [(0, .ref (b + k0)), (1, .ref (ad x1)), (2, .int x2), (3, .int x3), (4, .int x4), (5, .int v5_6), (6, .int v6_6)] → cPolicy_permissionsBy_L6 k0 x1 x2 x3 x4 S n6 v5_6 v6_6 = some rr → W p l e R s m args below meth c H locs 0 0 Q (F0 m 6 ls []) := by
    intro n6; induction n6 with
    | zero => intro v5_6 v6_6 H locs ls  hX hS hl h; rw [cPolicy_permissionsBy_L6] at h; cases h
    | succ n6 ih6 =>
      intro v5_6 v6_6 H locs ls  hX hS hl h
      rw [cPolicy_permissionsBy_L6] at h
      refine lv_iload hx hb d_cPolicy_permissionsBy_6 (lv_at hl 6 rfl) ?_
      refine lv_aload_n hx hb d_cPolicy_permissionsBy_8 rfl (lv_at hl 0 rfl) ?_
      refine c_get_7_8 (k := k0) hx hb hts hown hC hX hk0 (hts _ t_205) d_cPolicy_permissionsBy_9 ?_
      refine lv_icmp_ge hx hb d_cPolicy_permissionsBy_12 (tgt := 55) (by decide) (fun hc => ?_) (fun hc => ?_)
      · rw [if_pos hc] at h
        refine lv_iload hx hb d_cPolicy_permissionsBy_55 (lv_at hl 5 rfl) ?_
        obtain rfl := Option.some.inj h
        exact rt_i hQ hx hb hr hX hS hlk d_cPolicy_permissionsBy_57
      · rw [if_neg hc] at h
        refine lv_aload_n hx hb d_cPolicy_permissionsBy_15 rfl (lv_at hl 0 rfl) ?_
        refine c_get_7_7 (k := k0) hx hb hts hown hC hX hk0 (hts _ t_203) d_cPolicy_permissionsBy_16 ?_
        refine lv_iload hx hb d_cPolicy_permissionsBy_19 (lv_at hl 6 rfl) ?_
        by_cases hg21 : inbd v6_6 24 = true
        rotate_left; · rw [if_neg hg21] at h; cases h
        rw [if_pos hg21] at h
        refine c_ald_13 (k := (k0 + 12)) hx hb hC hX (kx_7_12 hk0) hg21 d_cPolicy_permissionsBy_21 ?_
        obtain ⟨a21, e21, h⟩ := bd_some h
        refine lt_R e21 ?_
        have hka21 := (ke_13 (k := (k0 + 12)) (kx_7_12 hk0) (inbd_lt hg21))
        rw [← e21] at hka21
        refine c_get_14_0N (k := a21) hx hb hts hown hC hX hka21 (va_Nw.use rfl (hC.2.1 _ t_131)) d_cPolicy_permissionsBy_22 ?_
        obtain ⟨r22, e22, h⟩ := bd_some h
        refine lt_W e22 ?_
        by_cases hkr22 : r22 < 15
        rotate_left; · rw [if_neg hkr22] at h; cases h
        rw [if_pos hkr22] at h
        refine lv_aload_n hx hb d_cPolicy_permissionsBy_25 rfl (lv_at hl 1 rfl) ?_
        refine lw_acmpne hx hb (hC.2.2.1) hkr22 hk1 d_cPolicy_permissionsBy_26 (tgt := 49) (by decide) (fun hc => ?_) (fun hc => ?_)
        · rw [if_neg hc] at h
          obtain ⟨a49, e49, h⟩ := bd_some h
          refine lv_iinc (v := a49) (lv' := [(6, .int a49), (0, .ref (b + k0)), (1, .ref (ad x1)), (2, .int x2), (3, .int x3), (4, .int x4), (5, .int v5_6)]) hx hb d_cPolicy_permissionsBy_49 hl (k := 6) rfl e49.symm (by decide) rfl (fun ls hl => ?_)
          refine lv_goto hx hb d_cPolicy_permissionsBy_52 (tgt := 6) (by decide) ?_
          exact ih6 v5_6 a49 H locs ls  hX hS (lv_sub hl [1, 2, 3, 4, 5, 6, 0] rfl) h
        · rw [if_pos hc] at h
          refine lv_iload hx hb d_cPolicy_permissionsBy_29 (lv_at hl 5 rfl) ?_
          refine lv_aload_n hx hb d_cPolicy_permissionsBy_31 rfl (lv_at hl 0 rfl) ?_
          refine lv_aload_n hx hb d_cPolicy_permissionsBy_32 rfl (lv_at hl 0 rfl) ?_
          refine c_get_7_7 (k := k0) hx hb hts hown hC hX hk0 (hts _ t_203) d_cPolicy_permissionsBy_33 ?_
          refine lv_iload hx hb d_cPolicy_permissionsBy_36 (lv_at hl 6 rfl) ?_
          by_cases hg38 : inbd v6_6 24 = true
          rotate_left; · rw [if_neg hg38] at h; cases h
          rw [if_pos hg38] at h
          refine c_ald_13 (k := (k0 + 12)) hx hb hC hX (kx_7_12 hk0) hg38 d_cPolicy_permissionsBy_38 ?_
          obtain ⟨a38, e38, h⟩ := bd_some h
          refine lt_R e38 ?_
          have hka38 := (ke_13 (k := (k0 + 12)) (kx_7_12 hk0) (inbd_lt hg38))
          rw [← e38] at hka38
          refine lv_iload_n hx hb d_cPolicy_permissionsBy_39 rfl (lv_at hl 2 rfl) ?_
          refine lv_iload_n hx hb d_cPolicy_permissionsBy_40 rfl (lv_at hl 3 rfl) ?_
          refine lv_iload hx hb d_cPolicy_permissionsBy_41 (lv_at hl 4 rfl) ?_
          obtain ⟨q43, hc43, h⟩ := Option.bind_eq_some_iff.mp h
          refine ck_V (As := [.ref (b + a38), .int x2, .int x3, .int x4]) (rest := [.int v5_6]) (st1 := [.int q43, .int v5_6]) (M_cPolicy_permissionsInForce hk0 hka38 hc43) t_870 t_872 p_32 t_873 t_4 hx hb hts hown hC hX hS (hrc_c7 hC hX hk0) hml hl.1 ⟨by rw [hRf]; decide, by rw [hRl]; decide⟩ ⟨rfl, rfl⟩ (n := 4) (by decide +kernel) rfl rfl rfl (lv_room (Nat.le_of_ble_eq_true rfl)) d_cPolicy_permissionsBy_43 (fun H locs hX hS => ?_)
          refine lv_ior hx hb d_cPolicy_permissionsBy_46 ?_
          obtain ⟨a47, e47, h⟩ := bd_some h
          refine lt_I e47 ?_
          refine lv_istore (lv' := [(5, .int a47), (0, .ref (b + k0)), (1, .ref (ad x1)), (2, .int x2), (3, .int x3), (4, .int x4), (6, .int v6_6)]) hx hb d_cPolicy_permissionsBy_47 hl (by decide) rfl (fun ls hl => ?_)
          obtain ⟨a49, e49, h⟩ := bd_some h
          refine lv_iinc (v := a49) (lv' := [(6, .int a49), (5, .int a47), (0, .ref (b + k0)), (1, .ref (ad x1)), (2, .int x2), (3, .int x3), (4, .int x4)]) hx hb d_cPolicy_permissionsBy_49 hl (k := 6) rfl e49.symm (by decide) rfl (fun ls hl => ?_)
          refine lv_goto hx hb d_cPolicy_permissionsBy_52 (tgt := 6) (by decide) ?_
          exact ih6 a47 a49 H locs ls  hX hS (lv_sub hl [2, 3, 4, 5, 6, 1, 0] rfl) h
  exact L6 600 0 0 H locs ls  hX hS (lv_sub hl [2, 3, 4, 5, 6, 1, 0] rfl) h
abbrev y_cPolicy_placeOfAllow : MethodName := ({ cls := "TypeGuard$Policy", name := "placeOfAllow", desc := "(IIII)I" } : Jvm.MethodName)
theorem d_cPolicy_placeOfAllow_0 : decode prog_6_method_5_code 0 = .ok (.iconst 0, 1) := by decide +kernel
theorem d_cPolicy_placeOfAllow_1 : decode prog_6_method_5_code 1 = .ok (.istore 5, 2) := by decide +kernel
theorem d_cPolicy_placeOfAllow_3 : decode prog_6_method_5_code 3 = .ok (.iload 5, 2) := by decide +kernel
theorem d_cPolicy_placeOfAllow_5 : decode prog_6_method_5_code 5 = .ok (.aload_n 0, 1) := by decide +kernel
theorem d_cPolicy_placeOfAllow_6 : decode prog_6_method_5_code 6 = .ok (.getfield 52, 3) := by decide +kernel
theorem d_cPolicy_placeOfAllow_9 : decode prog_6_method_5_code 9 = .ok (.if_icmp .ge 52, 3) := by decide +kernel
theorem d_cPolicy_placeOfAllow_12 : decode prog_6_method_5_code 12 = .ok (.aload_n 0, 1) := by decide +kernel
theorem d_cPolicy_placeOfAllow_13 : decode prog_6_method_5_code 13 = .ok (.getfield 43, 3) := by decide +kernel
theorem d_cPolicy_placeOfAllow_16 : decode prog_6_method_5_code 16 = .ok (.iload 5, 2) := by decide +kernel
theorem d_cPolicy_placeOfAllow_18 : decode prog_6_method_5_code 18 = .ok (.aaload, 1) := by decide +kernel
theorem d_cPolicy_placeOfAllow_19 : decode prog_6_method_5_code 19 = .ok (.astore 6, 2) := by decide +kernel
theorem d_cPolicy_placeOfAllow_21 : decode prog_6_method_5_code 21 = .ok (.aload 6, 2) := by decide +kernel
theorem d_cPolicy_placeOfAllow_23 : decode prog_6_method_5_code 23 = .ok (.getfield 59, 3) := by decide +kernel
theorem d_cPolicy_placeOfAllow_26 : decode prog_6_method_5_code 26 = .ok (.getstatic 67, 3) := by decide +kernel
theorem d_cPolicy_placeOfAllow_29 : decode prog_6_method_5_code 29 = .ok (.if_acmp .ne 26, 3) := by decide +kernel
theorem d_cPolicy_placeOfAllow_32 : decode prog_6_method_5_code 32 = .ok (.aload_n 0, 1) := by decide +kernel
theorem d_cPolicy_placeOfAllow_33 : decode prog_6_method_5_code 33 = .ok (.aload 6, 2) := by decide +kernel
theorem d_cPolicy_placeOfAllow_35 : decode prog_6_method_5_code 35 = .ok (.iload_n 1, 1) := by decide +kernel
theorem d_cPolicy_placeOfAllow_36 : decode prog_6_method_5_code 36 = .ok (.iload_n 2, 1) := by decide +kernel
theorem d_cPolicy_placeOfAllow_37 : decode prog_6_method_5_code 37 = .ok (.iload_n 3, 1) := by decide +kernel
theorem d_cPolicy_placeOfAllow_38 : decode prog_6_method_5_code 38 = .ok (.invokevirtual 63, 3) := by decide +kernel
theorem d_cPolicy_placeOfAllow_41 : decode prog_6_method_5_code 41 = .ok (.iload 4, 2) := by decide +kernel
theorem d_cPolicy_placeOfAllow_43 : decode prog_6_method_5_code 43 = .ok (.invokestatic 72, 3) := by decide +kernel
theorem d_cPolicy_placeOfAllow_46 : decode prog_6_method_5_code 46 = .ok (.ifCond .eq 9, 3) := by decide +kernel
theorem d_cPolicy_placeOfAllow_49 : decode prog_6_method_5_code 49 = .ok (.aload 6, 2) := by decide +kernel
theorem d_cPolicy_placeOfAllow_51 : decode prog_6_method_5_code 51 = .ok (.getfield 76, 3) := by decide +kernel
theorem d_cPolicy_placeOfAllow_54 : decode prog_6_method_5_code 54 = .ok (.ireturn, 1) := by decide +kernel
theorem d_cPolicy_placeOfAllow_55 : decode prog_6_method_5_code 55 = .ok (.iinc 5 1, 3) := by decide +kernel
theorem d_cPolicy_placeOfAllow_58 : decode prog_6_method_5_code 58 = .ok (.goto (-55), 3) := by decide +kernel
theorem d_cPolicy_placeOfAllow_61 : decode prog_6_method_5_code 61 = .ok (.iconst (-1), 1) := by decide +kernel
theorem d_cPolicy_placeOfAllow_62 : decode prog_6_method_5_code 62 = .ok (.ireturn, 1) := by decide +kernel
def cPolicy_placeOfAllow_L3 (v0_3 : Nat) (v1_3 : Int32) (v2_3 : Int32) (v3_3 : Int32) (v4_3 : Int32) (S_3 : CS) : Nat → Int32 → Option Int32
  | 0, _ => none
  | n + 1, v5_3 => (if (gI S_3 v0_3 8) ≤ v5_3 then some (-1) else (if inbd v5_3 24 = true then (bd (((v0_3 + 12) + (9 + 4 * txN v5_3))) fun a18 => (bd (gR S_3 a18 0) fun r23 => (if r23 < 15 then (if r23 = 5 then ((cPolicy_permissionsInForce v0_3 a18 v1_3 v2_3 v3_3 S_3).bind fun q38 => ((cG_hasBit q38 v4_3).bind fun q43 => (if q43 = true then some (gI S_3 a18 1) else (bd ((v5_3 + 1)) fun a55 => (cPolicy_placeOfAllow_L3 v0_3 v1_3 v2_3 v3_3 v4_3 S_3 n) a55)))) else (bd ((v5_3 + 1)) fun a55 => (cPolicy_placeOfAllow_L3 v0_3 v1_3 v2_3 v3_3 v4_3 S_3 n) a55)) else none))) else none))
def cPolicy_placeOfAllow (k0 : Nat) (x1 : Int32) (x2 : Int32) (x3 : Int32) (x4 : Int32) (S : CS) : Option Int32 := cPolicy_placeOfAllow_L3 k0 x1 x2 x3 x4 S 600 0
set_option maxHeartbeats 4000000 in
set_option maxRecDepth 100000 in
theorem M_cPolicy_placeOfAllow {l : Launch} {D : va_G} {cA : Nat → ClassId} {b : Nat} {ad : Nat → Nat} {k0 : Nat} {x1 : Int32} {x2 : Int32} {x3 : Int32} {x4 : Int32} {S : CS} {T : MS × (Nat → Int64)} {rr : Int32} (hk0 : kd k0 = 7) (h : cPolicy_placeOfAllow k0 x1 x2 x3 x4 S = some rr) : Met l y_cPolicy_placeOfAllow (Cond.code y_cPolicy_placeOfAllow prog_6_method_5_code 7 (Option.some Jvm.ClassFile.FieldType.int) :: TW) { frames := 3, cells := 0, slots := 0, locals := 69 } (va_Pc [.ref (b + k0), .int x1, .int x2, .int x3, .int x4] (Rp D cA b ad (S, T))) (Qr D cA b ad (S, T) (some (.int rr))) 0 0 (Ab b) := by
  refine Ct_of (by decide) (Nat.le_of_ble_eq_true rfl) ?_
  intro p e R s m args below meth c ls Q H locs hR hQ hx hb hts hown hml hr hlk hC hX hS hl
  have hRf : R.frames = 3 := by rw [hR]
  have hRl : R.locals = 69 := by rw [hR]
  have hown : s.vm.findClass "TypeGuard$Policy" = some m.cls := hown
  have hl : lv_has ls 7 [(0, .ref (b + k0)), (1, .int x1), (2, .int x2), (3, .int x3), (4, .int x4)] := hl
  rw [cPolicy_placeOfAllow] at h
  refine lv_iconst (v := 0) hx hb d_cPolicy_placeOfAllow_0 (by decide) ?_
  refine lv_istore (lv' := [(5, .int 0), (0, .ref (b + k0)), (1, .int x1), (2, .int x2), (3, .int x3), (4, .int x4)]) hx hb d_cPolicy_placeOfAllow_1 hl (by decide) rfl (fun ls hl => ?_)
  have L3 : ∀ (n3 : Nat) (v5_3 : Int32) (H : Heap) (locs : List Loc) (ls : Array Slot), hp D cA b ad (S, T) H → va_S (Ab b) s.heap H locs → lv_has ls 7 [(0, .ref (b + k0)), (1, .int x1), (2, .int x2), (3, .int x3), (4, .int x4), (5, .int v5_3)] → cPolicy_placeOfAllow_L3 k0 x1 x2 x3 x4 S n3 v5_3 = some rr → W p l e R s m args below meth c H locs 0 0 Q (F0 m 3 ls []) := by
    intro n3; induction n3 with
    | zero => intro v5_3 H locs ls  hX hS hl h; rw [cPolicy_placeOfAllow_L3] at h; cases h
    | succ n3 ih3 =>
      intro v5_3 H locs ls  hX hS hl h
      rw [cPolicy_placeOfAllow_L3] at h
      refine lv_iload hx hb d_cPolicy_placeOfAllow_3 (lv_at hl 5 rfl) ?_
      refine lv_aload_n hx hb d_cPolicy_placeOfAllow_5 rfl (lv_at hl 0 rfl) ?_
      refine c_get_7_8 (k := k0) hx hb hts hown hC hX hk0 (hts _ t_205) d_cPolicy_placeOfAllow_6 ?_
      refine lv_icmp_ge hx hb d_cPolicy_placeOfAllow_9 (tgt := 61) (by decide) (fun hc => ?_) (fun hc => ?_)
      · rw [if_pos hc] at h
        refine lv_iconst (v := (-1)) hx hb d_cPolicy_placeOfAllow_61 (by decide) ?_
        obtain rfl := Option.some.inj h
        exact rt_i hQ hx hb hr hX hS hlk d_cPolicy_placeOfAllow_62
      · rw [if_neg hc] at h
        refine lv_aload_n hx hb d_cPolicy_placeOfAllow_12 rfl (lv_at hl 0 rfl) ?_
        refine c_get_7_7 (k := k0) hx hb hts hown hC hX hk0 (hts _ t_203) d_cPolicy_placeOfAllow_13 ?_
        refine lv_iload hx hb d_cPolicy_placeOfAllow_16 (lv_at hl 5 rfl) ?_
        by_cases hg18 : inbd v5_3 24 = true
        rotate_left; · rw [if_neg hg18] at h; cases h
        rw [if_pos hg18] at h
        refine c_ald_13 (k := (k0 + 12)) hx hb hC hX (kx_7_12 hk0) hg18 d_cPolicy_placeOfAllow_18 ?_
        obtain ⟨a18, e18, h⟩ := bd_some h
        refine lt_R e18 ?_
        have hka18 := (ke_13 (k := (k0 + 12)) (kx_7_12 hk0) (inbd_lt hg18))
        rw [← e18] at hka18
        refine lv_astore (lv' := [(6, .ref (b + a18)), (0, .ref (b + k0)), (1, .int x1), (2, .int x2), (3, .int x3), (4, .int x4), (5, .int v5_3)]) hx hb d_cPolicy_placeOfAllow_19 hl (by decide) rfl (fun ls hl => ?_)
        refine lv_aload hx hb d_cPolicy_placeOfAllow_21 (lv_at hl 0 rfl) ?_
        refine c_get_14_0N (k := a18) hx hb hts hown hC hX hka18 (va_Nw.use rfl (hC.2.1 _ t_131)) d_cPolicy_placeOfAllow_23 ?_
        obtain ⟨r23, e23, h⟩ := bd_some h
        refine lt_W e23 ?_
        by_cases hkr23 : r23 < 15
        rotate_left; · rw [if_neg hkr23] at h; cases h
        rw [if_pos hkr23] at h
        refine st_W (i := 5) hx hb hC hS hown (hts _ t_754) d_cPolicy_placeOfAllow_26 (by decide) ?_
        refine lw_acmpne hx hb (hC.2.2.1) hkr23 (by decide) d_cPolicy_placeOfAllow_29 (tgt := 55) (by decide) (fun hc => ?_) (fun hc => ?_)
        · rw [if_neg hc] at h
          obtain ⟨a55, e55, h⟩ := bd_some h
          refine lv_iinc (v := a55) (lv' := [(5, .int a55), (6, .ref (b + a18)), (0, .ref (b + k0)), (1, .int x1), (2, .int x2), (3, .int x3), (4, .int x4)]) hx hb d_cPolicy_placeOfAllow_55 hl (k := 6) rfl e55.symm (by decide) rfl (fun ls hl => ?_)
          refine lv_goto hx hb d_cPolicy_placeOfAllow_58 (tgt := 3) (by decide) ?_
          exact ih3 a55 H locs ls  hX hS (lv_sub hl [2, 3, 4, 5, 6, 0] rfl) h
        · rw [if_pos hc] at h
          refine lv_aload_n hx hb d_cPolicy_placeOfAllow_32 rfl (lv_at hl 1 rfl) ?_
          refine lv_aload hx hb d_cPolicy_placeOfAllow_33 (lv_at hl 0 rfl) ?_
          refine lv_iload_n hx hb d_cPolicy_placeOfAllow_35 rfl (lv_at hl 2 rfl) ?_
          refine lv_iload_n hx hb d_cPolicy_placeOfAllow_36 rfl (lv_at hl 3 rfl) ?_
          refine lv_iload_n hx hb d_cPolicy_placeOfAllow_37 rfl (lv_at hl 4 rfl) ?_
          obtain ⟨q38, hc38, h⟩ := Option.bind_eq_some_iff.mp h
          refine ck_V (As := [.ref (b + a18), .int x1, .int x2, .int x3]) (rest := []) (st1 := [.int q38]) (M_cPolicy_permissionsInForce hk0 hka18 hc38) t_870 t_872 p_32 t_873 t_4 hx hb hts hown hC hX hS (hrc_c7 hC hX hk0) hml hl.1 ⟨by rw [hRf]; decide, by rw [hRl]; decide⟩ ⟨rfl, rfl⟩ (n := 4) (by decide +kernel) rfl rfl rfl (lv_room (Nat.le_of_ble_eq_true rfl)) d_cPolicy_placeOfAllow_38 (fun H locs hX hS => ?_)
          refine lv_iload hx hb d_cPolicy_placeOfAllow_41 (lv_at hl 5 rfl) ?_
          obtain ⟨q43, hc43, h⟩ := Option.bind_eq_some_iff.mp h
          refine ck_SN (As := [.int q38, .int x4]) (rest := []) (st1 := [.int (bI q43)]) (M_cG_hasBit  hc43) (hC.2.1 _ t_726) t_651 t_652 t_1 hx hb hts hown hC hX hS  hml hl.1 ⟨by rw [hRf]; decide, by rw [hRl]; decide⟩ ⟨rfl, rfl⟩ (n := 2) (by decide +kernel) rfl rfl rfl (lv_room (Nat.le_of_ble_eq_true rfl)) d_cPolicy_placeOfAllow_43 (fun H locs hX hS => ?_)
          refine lz_ifeq hx hb d_cPolicy_placeOfAllow_46 (tgt := 55) (by decide) (fun hc => ?_) (fun hc => ?_)
          · rw [if_neg hc] at h
            obtain ⟨a55, e55, h⟩ := bd_some h
            refine lv_iinc (v := a55) (lv' := [(5, .int a55), (6, .ref (b + a18)), (0, .ref (b + k0)), (1, .int x1), (2, .int x2), (3, .int x3), (4, .int x4)]) hx hb d_cPolicy_placeOfAllow_55 hl (k := 6) rfl e55.symm (by decide) rfl (fun ls hl => ?_)
            refine lv_goto hx hb d_cPolicy_placeOfAllow_58 (tgt := 3) (by decide) ?_
            exact ih3 a55 H locs ls  hX hS (lv_sub hl [2, 3, 4, 5, 6, 0] rfl) h
          · rw [if_pos hc] at h
            refine lv_aload hx hb d_cPolicy_placeOfAllow_49 (lv_at hl 0 rfl) ?_
            refine c_get_14_1N (k := a18) hx hb hts hown hC hX hka18 (va_Nw.use rfl (hC.2.1 _ t_134)) d_cPolicy_placeOfAllow_51 ?_
            obtain rfl := Option.some.inj h
            exact rt_i hQ hx hb hr hX hS hlk d_cPolicy_placeOfAllow_54
  exact L3 600 0 H locs ls  hX hS (lv_sub hl [1, 2, 3, 4, 5, 0] rfl) h
