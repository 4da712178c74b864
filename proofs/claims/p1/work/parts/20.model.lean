abbrev y_m_thrown : MethodName := ({ cls := "TypeGuardModel", name := "thrown", desc := "()I" } : Jvm.MethodName)
theorem d_m_thrown_0 : decode prog_14_method_2_code 0 = .ok (.aload_n 0, 1) := by decide +kernel
theorem d_m_thrown_1 : decode prog_14_method_2_code 1 = .ok (.getfield 106, 3) := by decide +kernel
theorem d_m_thrown_4 : decode prog_14_method_2_code 4 = .ok (.ireturn, 1) := by decide +kernel
def m_thrown (S : MS) : Option Int32 := some (gI S 0 0)
set_option maxHeartbeats 4000000 in
set_option maxRecDepth 100000 in
theorem M_m_thrown {l : Launch} {D : va_G} {cA : Nat → ClassId} {b : Nat} {ad : Nat → Nat}  {S : MS} {T : CS} {o : Nat → Int64} {rr : Int32}  (h : m_thrown  S = some rr) : Met l y_m_thrown (Cond.code y_m_thrown prog_14_method_2_code 1 (Option.some Jvm.ClassFile.FieldType.int) :: TW) { frames := 0, cells := 0, slots := 0, locals := 0 } (va_Pc [.ref (b + 262)] (Rp D cA b ad (T, S, o))) (Qr D cA b ad (T, S, o) (some (.int rr))) 0 0 (Ab b) := by
  refine Ct_of (by decide) (Nat.le_of_ble_eq_true rfl) ?_
  intro p e R s m args below meth c ls Q H locs hR hQ hx hb hts hown hml hr hlk hC hX hS hl
  have hRf : R.frames = 0 := by rw [hR]
  have hRl : R.locals = 0 := by rw [hR]
  have hown : s.vm.findClass "TypeGuardModel" = some m.cls := hown
  have hl : lv_has ls 1 [(0, .ref (b + 262))] := hl
  rw [m_thrown] at h
  refine lv_aload_n hx hb d_m_thrown_0 rfl (lv_at hl 0 rfl) ?_
  refine m_get_0_0 hx hb hts hown hC hX (by rfl) (hts _ t_987) d_m_thrown_1 ?_
  obtain rfl := Option.some.inj h
  exact rt_i hQ hx hb hr hX hS hlk d_m_thrown_4
abbrev y_m_give : MethodName := ({ cls := "TypeGuardModel", name := "give", desc := "(II)I" } : Jvm.MethodName)
theorem d_m_give_0 : decode prog_14_method_3_code 0 = .ok (.aload_n 0, 1) := by decide +kernel
theorem d_m_give_1 : decode prog_14_method_3_code 1 = .ok (.iload_n 1, 1) := by decide +kernel
theorem d_m_give_2 : decode prog_14_method_3_code 2 = .ok (.putfield 106, 3) := by decide +kernel
theorem d_m_give_5 : decode prog_14_method_3_code 5 = .ok (.iload_n 2, 1) := by decide +kernel
theorem d_m_give_6 : decode prog_14_method_3_code 6 = .ok (.ireturn, 1) := by decide +kernel
def m_give (x1 : Int32) (x2 : Int32) (S : MS) : Option (MS × Int32) := (bd (pI S 0 0 x1) fun S2 => some (S2, x2))
set_option maxHeartbeats 4000000 in
set_option maxRecDepth 100000 in
theorem M_m_give {l : Launch} {D : va_G} {cA : Nat → ClassId} {b : Nat} {ad : Nat → Nat} {x1 : Int32} {x2 : Int32} {S : MS} {T : CS} {o : Nat → Int64} {rr : (MS × Int32)}  (h : m_give x1 x2 S = some rr) : Met l y_m_give (Cond.code y_m_give prog_14_method_3_code 3 (Option.some Jvm.ClassFile.FieldType.int) :: TW) { frames := 0, cells := 0, slots := 0, locals := 0 } (va_Pc [.ref (b + 262), .int x1, .int x2] (Rp D cA b ad (T, S, o))) (Qr D cA b ad (T, rr.1, o) (some (.int rr.2))) 0 0 (Ab b) := by
  refine Ct_of (by decide) (Nat.le_of_ble_eq_true rfl) ?_
  intro p e R s m args below meth c ls Q H locs hR hQ hx hb hts hown hml hr hlk hC hX hS hl
  have hRf : R.frames = 0 := by rw [hR]
  have hRl : R.locals = 0 := by rw [hR]
  have hown : s.vm.findClass "TypeGuardModel" = some m.cls := hown
  have hl : lv_has ls 3 [(0, .ref (b + 262)), (1, .int x1), (2, .int x2)] := hl
  rw [m_give] at h
  refine lv_aload_n hx hb d_m_give_0 rfl (lv_at hl 0 rfl) ?_
  refine lv_iload_n hx hb d_m_give_1 rfl (lv_at hl 1 rfl) ?_
  refine m_put_0_0 (v := x1) hx hb hts hown hC hX hS (by rfl) (hts _ t_987) d_m_give_2 (fun H locs hX hS => ?_)
  obtain ⟨S2, e2, h⟩ := bd_some h
  rw [← e2] at hX
  refine lv_iload_n hx hb d_m_give_5 rfl (lv_at hl 2 rfl) ?_
  obtain rfl := Option.some.inj h
  exact rt_i hQ hx hb hr hX hS hlk d_m_give_6
abbrev y_m_fail : MethodName := ({ cls := "TypeGuardModel", name := "fail", desc := "(I)V" } : Jvm.MethodName)
theorem d_m_fail_0 : decode prog_14_method_4_code 0 = .ok (.aload_n 0, 1) := by decide +kernel
theorem d_m_fail_1 : decode prog_14_method_4_code 1 = .ok (.getfield 109, 3) := by decide +kernel
theorem d_m_fail_4 : decode prog_14_method_4_code 4 = .ok (.ifCond .ne 11, 3) := by decide +kernel
theorem d_m_fail_7 : decode prog_14_method_4_code 7 = .ok (.aload_n 0, 1) := by decide +kernel
theorem d_m_fail_8 : decode prog_14_method_4_code 8 = .ok (.aload_n 0, 1) := by decide +kernel
theorem d_m_fail_9 : decode prog_14_method_4_code 9 = .ok (.getfield 112, 3) := by decide +kernel
theorem d_m_fail_12 : decode prog_14_method_4_code 12 = .ok (.putfield 115, 3) := by decide +kernel
theorem d_m_fail_15 : decode prog_14_method_4_code 15 = .ok (.aload_n 0, 1) := by decide +kernel
theorem d_m_fail_16 : decode prog_14_method_4_code 16 = .ok (.getfield 109, 3) := by decide +kernel
theorem d_m_fail_19 : decode prog_14_method_4_code 19 = .ok (.ifCond .ne 8, 3) := by decide +kernel
theorem d_m_fail_22 : decode prog_14_method_4_code 22 = .ok (.aload_n 0, 1) := by decide +kernel
theorem d_m_fail_23 : decode prog_14_method_4_code 23 = .ok (.iload_n 1, 1) := by decide +kernel
theorem d_m_fail_24 : decode prog_14_method_4_code 24 = .ok (.putfield 109, 3) := by decide +kernel
theorem d_m_fail_27 : decode prog_14_method_4_code 27 = .ok (.return_, 1) := by decide +kernel
def m_fail_J15 (v1_15 : Int32) (S_15 : MS) : Option MS := (if (gI S_15 0 7) = 0 then (bd (pI S_15 0 7 v1_15) fun S24 => some S24) else some S_15)
def m_fail (x1 : Int32) (S : MS) : Option MS := (if (gI S 0 7) = 0 then (bd (pI S 0 8 (gI S 0 3)) fun S12 => m_fail_J15 x1 S12) else m_fail_J15 x1 S)
set_option maxHeartbeats 4000000 in
set_option maxRecDepth 100000 in
theorem M_m_fail {l : Launch} {D : va_G} {cA : Nat → ClassId} {b : Nat} {ad : Nat → Nat} {x1 : Int32} {S : MS} {T : CS} {o : Nat → Int64} {rr : MS}  (h : m_fail x1 S = some rr) : Met l y_m_fail (Cond.code y_m_fail prog_14_method_4_code 2 (Option.none : Option Jvm.ClassFile.FieldType) :: TW) { frames := 0, cells := 0, slots := 0, locals := 0 } (va_Pc [.ref (b + 262), .int x1] (Rp D cA b ad (T, S, o))) (Qr D cA b ad (T, rr, o) none) 0 0 (Ab b) := by
  refine Ct_of (by decide) (Nat.le_of_ble_eq_true rfl) ?_
  intro p e R s m args below meth c ls Q H locs hR hQ hx hb hts hown hml hr hlk hC hX hS hl
  have hRf : R.frames = 0 := by rw [hR]
  have hRl : R.locals = 0 := by rw [hR]
  have hown : s.vm.findClass "TypeGuardModel" = some m.cls := hown
  have hl : lv_has ls 2 [(0, .ref (b + 262)), (1, .int x1)] := hl
  rw [m_fail] at h
  refine lv_aload_n hx hb d_m_fail_0 rfl (lv_at hl 0 rfl) ?_
  refine m_get_0_7 hx hb hts hown hC hX (by rfl) (hts _ t_994) d_m_fail_1 ?_
  have J15 : ∀ (S_15 : MS) (H : Heap) (locs : List Loc) (ls : Array Slot), hp D cA b ad (T, S_15, o) H → va_S (Ab b) s.heap H locs → lv_has ls 2 [(0, .ref (b + 262)), (1, .int x1)] → m_fail_J15 x1 S_15 = some rr → W p l e R s m args below meth c H locs 0 0 Q (F0 m 15 ls []) := by
    intro S_15 H locs ls  hX hS hl h
    rw [m_fail_J15] at h
    refine lv_aload_n hx hb d_m_fail_15 rfl (lv_at hl 0 rfl) ?_
    refine m_get_0_7 hx hb hts hown hC hX (by rfl) (hts _ t_994) d_m_fail_16 ?_
    refine lv_if_ne hx hb d_m_fail_19 (tgt := 27) (by decide) (fun hc => ?_) (fun hc => ?_)
    · rw [if_neg hc] at h
      obtain rfl := Option.some.inj h
      exact rt_v hQ hx hb hr hX hS hlk d_m_fail_27
    · rw [if_pos hc] at h
      refine lv_aload_n hx hb d_m_fail_22 rfl (lv_at hl 0 rfl) ?_
      refine lv_iload_n hx hb d_m_fail_23 rfl (lv_at hl 1 rfl) ?_
      refine m_put_0_7 (v := x1) hx hb hts hown hC hX hS (by rfl) (hts _ t_994) d_m_fail_24 (fun H locs hX hS => ?_)
      obtain ⟨S24, e24, h⟩ := bd_some h
      rw [← e24] at hX
      obtain rfl := Option.some.inj h
      exact rt_v hQ hx hb hr hX hS hlk d_m_fail_27
  refine lv_if_ne hx hb d_m_fail_4 (tgt := 15) (by decide) (fun hc => ?_) (fun hc => ?_)
  · rw [if_neg hc] at h
    exact J15 S H locs ls  hX hS (lv_sub hl [0, 1] rfl) h
  · rw [if_pos hc] at h
    refine lv_aload_n hx hb d_m_fail_7 rfl (lv_at hl 0 rfl) ?_
    refine lv_aload_n hx hb d_m_fail_8 rfl (lv_at hl 0 rfl) ?_
    refine m_get_0_3 hx hb hts hown hC hX (by rfl) (hts _ t_990) d_m_fail_9 ?_
    refine m_put_0_8 (v := (gI S 0 3)) hx hb hts hown hC hX hS (by rfl) (hts _ t_995) d_m_fail_12 (fun H locs hX hS => ?_)
    obtain ⟨S12, e12, h⟩ := bd_some h
    rw [← e12] at hX
    exact J15 S12 H locs ls  hX hS (lv_sub hl [0, 1] rfl) h
abbrev y_m_isLetter : MethodName := ({ cls := "TypeGuardModel", name := "isLetter", desc := "(I)Z" } : Jvm.MethodName)
theorem d_m_isLetter_0 : decode prog_14_method_5_code 0 = .ok (.iload_n 0, 1) := by decide +kernel
theorem d_m_isLetter_1 : decode prog_14_method_5_code 1 = .ok (.bipush 97, 2) := by decide +kernel
theorem d_m_isLetter_3 : decode prog_14_method_5_code 3 = .ok (.if_icmp .lt 13, 3) := by decide +kernel
theorem d_m_isLetter_6 : decode prog_14_method_5_code 6 = .ok (.iload_n 0, 1) := by decide +kernel
theorem d_m_isLetter_7 : decode prog_14_method_5_code 7 = .ok (.bipush 122, 2) := by decide +kernel
theorem d_m_isLetter_9 : decode prog_14_method_5_code 9 = .ok (.if_icmp .gt 7, 3) := by decide +kernel
theorem d_m_isLetter_12 : decode prog_14_method_5_code 12 = .ok (.iconst 1, 1) := by decide +kernel
theorem d_m_isLetter_13 : decode prog_14_method_5_code 13 = .ok (.goto 4, 3) := by decide +kernel
theorem d_m_isLetter_16 : decode prog_14_method_5_code 16 = .ok (.iconst 0, 1) := by decide +kernel
theorem d_m_isLetter_17 : decode prog_14_method_5_code 17 = .ok (.ireturn, 1) := by decide +kernel
def m_isLetter (x0 : Int32) : Option Bool := (if x0 < 97 then some false else (if 122 < x0 then some false else some true))
set_option maxHeartbeats 4000000 in
set_option maxRecDepth 100000 in
theorem M_m_isLetter {l : Launch} {D : va_G} {cA : Nat → ClassId} {b : Nat} {ad : Nat → Nat} {x0 : Int32} {S : MS} {T : CS} {o : Nat → Int64} {rr : Bool}  (h : m_isLetter x0 = some rr) : Met l y_m_isLetter (Cond.code y_m_isLetter prog_14_method_5_code 1 (Option.some Jvm.ClassFile.FieldType.boolean) :: TW) { frames := 0, cells := 0, slots := 0, locals := 0 } (va_Pc [.int x0] (Rp D cA b ad (T, S, o))) (Qr D cA b ad (T, S, o) (some (.int (bI rr)))) 0 0 (Ab b) := by
  refine Ct_of (by decide) (Nat.le_of_ble_eq_true rfl) ?_
  intro p e R s m args below meth c ls Q H locs hR hQ hx hb hts hown hml hr hlk hC hX hS hl
  have hRf : R.frames = 0 := by rw [hR]
  have hRl : R.locals = 0 := by rw [hR]
  have hown : s.vm.findClass "TypeGuardModel" = some m.cls := hown
  have hl : lv_has ls 1 [(0, .int x0)] := hl
  rw [m_isLetter] at h
  refine lv_iload_n hx hb d_m_isLetter_0 rfl (lv_at hl 0 rfl) ?_
  refine lv_bipush (v := 97) hx hb d_m_isLetter_1 (by decide) ?_
  refine lv_icmp_lt hx hb d_m_isLetter_3 (tgt := 16) (by decide) (fun hc => ?_) (fun hc => ?_)
  · rw [if_pos hc] at h
    refine lv_iconst (v := 0) hx hb d_m_isLetter_16 (by decide) ?_
    obtain rfl := Option.some.inj h
    exact rt_zf hQ hx hb hr hX hS hlk d_m_isLetter_17
  · rw [if_neg hc] at h
    refine lv_iload_n hx hb d_m_isLetter_6 rfl (lv_at hl 0 rfl) ?_
    refine lv_bipush (v := 122) hx hb d_m_isLetter_7 (by decide) ?_
    refine lv_icmp_gt hx hb d_m_isLetter_9 (tgt := 16) (by decide) (fun hc => ?_) (fun hc => ?_)
    · rw [if_pos hc] at h
      refine lv_iconst (v := 0) hx hb d_m_isLetter_16 (by decide) ?_
      obtain rfl := Option.some.inj h
      exact rt_zf hQ hx hb hr hX hS hlk d_m_isLetter_17
    · rw [if_neg hc] at h
      refine lv_iconst (v := 1) hx hb d_m_isLetter_12 (by decide) ?_
      refine lv_goto hx hb d_m_isLetter_13 (tgt := 17) (by decide) ?_
      obtain rfl := Option.some.inj h
      exact rt_zt hQ hx hb hr hX hS hlk d_m_isLetter_17
abbrev y_m_isPart : MethodName := ({ cls := "TypeGuardModel", name := "isPart", desc := "(I)Z" } : Jvm.MethodName)
theorem d_m_isPart_0 : decode prog_14_method_6_code 0 = .ok (.iload_n 0, 1) := by decide +kernel
theorem d_m_isPart_1 : decode prog_14_method_6_code 1 = .ok (.invokestatic 118, 3) := by decide +kernel
theorem d_m_isPart_4 : decode prog_14_method_6_code 4 = .ok (.ifCond .ne 21, 3) := by decide +kernel
theorem d_m_isPart_7 : decode prog_14_method_6_code 7 = .ok (.iload_n 0, 1) := by decide +kernel
theorem d_m_isPart_8 : decode prog_14_method_6_code 8 = .ok (.bipush 48, 2) := by decide +kernel
theorem d_m_isPart_10 : decode prog_14_method_6_code 10 = .ok (.if_icmp .lt 9, 3) := by decide +kernel
theorem d_m_isPart_13 : decode prog_14_method_6_code 13 = .ok (.iload_n 0, 1) := by decide +kernel
theorem d_m_isPart_14 : decode prog_14_method_6_code 14 = .ok (.bipush 57, 2) := by decide +kernel
theorem d_m_isPart_16 : decode prog_14_method_6_code 16 = .ok (.if_icmp .le 9, 3) := by decide +kernel
theorem d_m_isPart_19 : decode prog_14_method_6_code 19 = .ok (.iload_n 0, 1) := by decide +kernel
theorem d_m_isPart_20 : decode prog_14_method_6_code 20 = .ok (.bipush 95, 2) := by decide +kernel
theorem d_m_isPart_22 : decode prog_14_method_6_code 22 = .ok (.if_icmp .ne 7, 3) := by decide +kernel
theorem d_m_isPart_25 : decode prog_14_method_6_code 25 = .ok (.iconst 1, 1) := by decide +kernel
theorem d_m_isPart_26 : decode prog_14_method_6_code 26 = .ok (.goto 4, 3) := by decide +kernel
theorem d_m_isPart_29 : decode prog_14_method_6_code 29 = .ok (.iconst 0, 1) := by decide +kernel
theorem d_m_isPart_30 : decode prog_14_method_6_code 30 = .ok (.ireturn, 1) := by decide +kernel
def m_isPart_J19 (v0_19 : Int32) : Option Bool := (if v0_19 = 95 then some true else some false)
def m_isPart (x0 : Int32) : Option Bool := ((m_isLetter x0).bind fun q1 => (if q1 = true then some true else (if x0 < 48 then m_isPart_J19 x0 else (if x0 ≤ 57 then some true else m_isPart_J19 x0))))
set_option maxHeartbeats 4000000 in
set_option maxRecDepth 100000 in
theorem M_m_isPart {l : Launch} {D : va_G} {cA : Nat → ClassId} {b : Nat} {ad : Nat → Nat} {x0 : Int32} {S : MS} {T : CS} {o : Nat → Int64} {rr : Bool}  (h : m_isPart x0 = some rr) : Met l y_m_isPart (Cond.code y_m_isPart prog_14_method_6_code 1 (Option.some Jvm.ClassFile.FieldType.boolean) :: TW) { frames := 1, cells := 0, slots := 0, locals := 20 } (va_Pc [.int x0] (Rp D cA b ad (T, S, o))) (Qr D cA b ad (T, S, o) (some (.int (bI rr)))) 0 0 (Ab b) := by
  refine Ct_of (by decide) (Nat.le_of_ble_eq_true rfl) ?_
  intro p e R s m args below meth c ls Q H locs hR hQ hx hb hts hown hml hr hlk hC hX hS hl
  have hRf : R.frames = 1 := by rw [hR]
  have hRl : R.locals = 20 := by rw [hR]
  have hown : s.vm.findClass "TypeGuardModel" = some m.cls := hown
  have hl : lv_has ls 1 [(0, .int x0)] := hl
  rw [m_isPart] at h
  refine lv_iload_n hx hb d_m_isPart_0 rfl (lv_at hl 0 rfl) ?_
  obtain ⟨q1, hc1, h⟩ := Option.bind_eq_some_iff.mp h
  refine ck_S (As := [.int x0]) (rest := []) (st1 := [.int (bI q1)]) (M_m_isLetter  hc1) t_1153 t_1154 t_1155 t_13 hx hb hts hown hC hX hS  hml hl.1 ⟨by rw [hRf]; decide, by rw [hRl]; decide⟩ ⟨rfl, rfl⟩ (n := 1) (by decide +kernel) rfl rfl rfl (lv_room (Nat.le_of_ble_eq_true rfl)) d_m_isPart_1 (fun H locs hX hS => ?_)
  refine lz_ifne hx hb d_m_isPart_4 (tgt := 25) (by decide) (fun hc => ?_) (fun hc => ?_)
  · rw [if_pos hc] at h
    refine lv_iconst (v := 1) hx hb d_m_isPart_25 (by decide) ?_
    refine lv_goto hx hb d_m_isPart_26 (tgt := 30) (by decide) ?_
    obtain rfl := Option.some.inj h
    exact rt_zt hQ hx hb hr hX hS hlk d_m_isPart_30
  · rw [if_neg hc] at h
    refine lv_iload_n hx hb d_m_isPart_7 rfl (lv_at hl 0 rfl) ?_
    refine lv_bipush (v := 48) hx hb d_m_isPart_8 (by decide) ?_
    have J19 : ∀  (H : Heap) (locs : List Loc) (ls : Array Slot), hp D cA b ad (T, S, o) H → va_S (Ab b) s.heap H locs → lv_has ls 1 [(0, .int x0)] → m_isPart_J19 x0 = some rr → W p l e R s m args below meth c H locs 0 0 Q (F0 m 19 ls []) := by
      intro  H locs ls  hX hS hl h
      rw [m_isPart_J19] at h
      refine lv_iload_n hx hb d_m_isPart_19 rfl (lv_at hl 0 rfl) ?_
      refine lv_bipush (v := 95) hx hb d_m_isPart_20 (by decide) ?_
      refine lv_icmp_ne hx hb d_m_isPart_22 (tgt := 29) (by decide) (fun hc => ?_) (fun hc => ?_)
      · rw [if_neg hc] at h
        refine lv_iconst (v := 0) hx hb d_m_isPart_29 (by decide) ?_
        obtain rfl := Option.some.inj h
        exact rt_zf hQ hx hb hr hX hS hlk d_m_isPart_30
      · rw [if_pos hc] at h
        refine lv_iconst (v := 1) hx hb d_m_isPart_25 (by decide) ?_
        refine lv_goto hx hb d_m_isPart_26 (tgt := 30) (by decide) ?_
        obtain rfl := Option.some.inj h
        exact rt_zt hQ hx hb hr hX hS hlk d_m_isPart_30
    refine lv_icmp_lt hx hb d_m_isPart_10 (tgt := 19) (by decide) (fun hc => ?_) (fun hc => ?_)
    · rw [if_pos hc] at h
      exact J19  H locs ls  hX hS (lv_sub hl [0] rfl) h
    · rw [if_neg hc] at h
      refine lv_iload_n hx hb d_m_isPart_13 rfl (lv_at hl 0 rfl) ?_
      refine lv_bipush (v := 57) hx hb d_m_isPart_14 (by decide) ?_
      refine lv_icmp_le hx hb d_m_isPart_16 (tgt := 25) (by decide) (fun hc => ?_) (fun hc => ?_)
      · rw [if_pos hc] at h
        refine lv_iconst (v := 1) hx hb d_m_isPart_25 (by decide) ?_
        refine lv_goto hx hb d_m_isPart_26 (tgt := 30) (by decide) ?_
        obtain rfl := Option.some.inj h
        exact rt_zt hQ hx hb hr hX hS hlk d_m_isPart_30
      · rw [if_neg hc] at h
        exact J19  H locs ls  hX hS (lv_sub hl [0] rfl) h
abbrev y_m_next : MethodName := ({ cls := "TypeGuardModel", name := "next", desc := "()V" } : Jvm.MethodName)
theorem d_m_next_0 : decode prog_14_method_7_code 0 = .ok (.aload_n 0, 1) := by decide +kernel
theorem d_m_next_1 : decode prog_14_method_7_code 1 = .ok (.getfield 109, 3) := by decide +kernel
theorem d_m_next_4 : decode prog_14_method_7_code 4 = .ok (.ifCond .eq 4, 3) := by decide +kernel
theorem d_m_next_7 : decode prog_14_method_7_code 7 = .ok (.return_, 1) := by decide +kernel
theorem d_m_next_8 : decode prog_14_method_7_code 8 = .ok (.aload_n 0, 1) := by decide +kernel
theorem d_m_next_9 : decode prog_14_method_7_code 9 = .ok (.getfield 122, 3) := by decide +kernel
theorem d_m_next_12 : decode prog_14_method_7_code 12 = .ok (.aload_n 0, 1) := by decide +kernel
theorem d_m_next_13 : decode prog_14_method_7_code 13 = .ok (.getfield 125, 3) := by decide +kernel
theorem d_m_next_16 : decode prog_14_method_7_code 16 = .ok (.if_icmp .ge 30, 3) := by decide +kernel
theorem d_m_next_19 : decode prog_14_method_7_code 19 = .ok (.aload_n 0, 1) := by decide +kernel
theorem d_m_next_20 : decode prog_14_method_7_code 20 = .ok (.getfield 7, 3) := by decide +kernel
theorem d_m_next_23 : decode prog_14_method_7_code 23 = .ok (.aload_n 0, 1) := by decide +kernel
theorem d_m_next_24 : decode prog_14_method_7_code 24 = .ok (.getfield 122, 3) := by decide +kernel
theorem d_m_next_27 : decode prog_14_method_7_code 27 = .ok (.iaload, 1) := by decide +kernel
theorem d_m_next_28 : decode prog_14_method_7_code 28 = .ok (.bipush 32, 2) := by decide +kernel
theorem d_m_next_30 : decode prog_14_method_7_code 30 = .ok (.if_icmp .ne 16, 3) := by decide +kernel
theorem d_m_next_33 : decode prog_14_method_7_code 33 = .ok (.aload_n 0, 1) := by decide +kernel
theorem d_m_next_34 : decode prog_14_method_7_code 34 = .ok (.dup, 1) := by decide +kernel
theorem d_m_next_35 : decode prog_14_method_7_code 35 = .ok (.getfield 122, 3) := by decide +kernel
theorem d_m_next_38 : decode prog_14_method_7_code 38 = .ok (.iconst 1, 1) := by decide +kernel
theorem d_m_next_39 : decode prog_14_method_7_code 39 = .ok (.iadd, 1) := by decide +kernel
theorem d_m_next_40 : decode prog_14_method_7_code 40 = .ok (.putfield 122, 3) := by decide +kernel
theorem d_m_next_43 : decode prog_14_method_7_code 43 = .ok (.goto (-35), 3) := by decide +kernel
theorem d_m_next_46 : decode prog_14_method_7_code 46 = .ok (.aload_n 0, 1) := by decide +kernel
theorem d_m_next_47 : decode prog_14_method_7_code 47 = .ok (.aload_n 0, 1) := by decide +kernel
theorem d_m_next_48 : decode prog_14_method_7_code 48 = .ok (.getfield 122, 3) := by decide +kernel
theorem d_m_next_51 : decode prog_14_method_7_code 51 = .ok (.putfield 112, 3) := by decide +kernel
theorem d_m_next_54 : decode prog_14_method_7_code 54 = .ok (.aload_n 0, 1) := by decide +kernel
theorem d_m_next_55 : decode prog_14_method_7_code 55 = .ok (.iconst 0, 1) := by decide +kernel
theorem d_m_next_56 : decode prog_14_method_7_code 56 = .ok (.putfield 128, 3) := by decide +kernel
theorem d_m_next_59 : decode prog_14_method_7_code 59 = .ok (.aload_n 0, 1) := by decide +kernel
theorem d_m_next_60 : decode prog_14_method_7_code 60 = .ok (.iconst 0, 1) := by decide +kernel
theorem d_m_next_61 : decode prog_14_method_7_code 61 = .ok (.putfield 131, 3) := by decide +kernel
theorem d_m_next_64 : decode prog_14_method_7_code 64 = .ok (.aload_n 0, 1) := by decide +kernel
theorem d_m_next_65 : decode prog_14_method_7_code 65 = .ok (.lconst 0, 1) := by decide +kernel
theorem d_m_next_66 : decode prog_14_method_7_code 66 = .ok (.putfield 134, 3) := by decide +kernel
theorem d_m_next_69 : decode prog_14_method_7_code 69 = .ok (.aload_n 0, 1) := by decide +kernel
theorem d_m_next_70 : decode prog_14_method_7_code 70 = .ok (.getfield 112, 3) := by decide +kernel
theorem d_m_next_73 : decode prog_14_method_7_code 73 = .ok (.aload_n 0, 1) := by decide +kernel
theorem d_m_next_74 : decode prog_14_method_7_code 74 = .ok (.getfield 125, 3) := by decide +kernel
theorem d_m_next_77 : decode prog_14_method_7_code 77 = .ok (.if_icmp .ne 4, 3) := by decide +kernel
theorem d_m_next_80 : decode prog_14_method_7_code 80 = .ok (.return_, 1) := by decide +kernel
theorem d_m_next_81 : decode prog_14_method_7_code 81 = .ok (.aload_n 0, 1) := by decide +kernel
theorem d_m_next_82 : decode prog_14_method_7_code 82 = .ok (.getfield 7, 3) := by decide +kernel
theorem d_m_next_85 : decode prog_14_method_7_code 85 = .ok (.aload_n 0, 1) := by decide +kernel
theorem d_m_next_86 : decode prog_14_method_7_code 86 = .ok (.getfield 112, 3) := by decide +kernel
theorem d_m_next_89 : decode prog_14_method_7_code 89 = .ok (.iaload, 1) := by decide +kernel
theorem d_m_next_90 : decode prog_14_method_7_code 90 = .ok (.istore_n 1, 1) := by decide +kernel
theorem d_m_next_91 : decode prog_14_method_7_code 91 = .ok (.iload_n 1, 1) := by decide +kernel
theorem d_m_next_92 : decode prog_14_method_7_code 92 = .ok (.invokestatic 118, 3) := by decide +kernel
theorem d_m_next_95 : decode prog_14_method_7_code 95 = .ok (.ifCond .eq 119, 3) := by decide +kernel
theorem d_m_next_98 : decode prog_14_method_7_code 98 = .ok (.aload_n 0, 1) := by decide +kernel
theorem d_m_next_99 : decode prog_14_method_7_code 99 = .ok (.getfield 122, 3) := by decide +kernel
theorem d_m_next_102 : decode prog_14_method_7_code 102 = .ok (.aload_n 0, 1) := by decide +kernel
theorem d_m_next_103 : decode prog_14_method_7_code 103 = .ok (.getfield 125, 3) := by decide +kernel
theorem d_m_next_106 : decode prog_14_method_7_code 106 = .ok (.if_icmp .ge 83, 3) := by decide +kernel
theorem d_m_next_109 : decode prog_14_method_7_code 109 = .ok (.aload_n 0, 1) := by decide +kernel
theorem d_m_next_110 : decode prog_14_method_7_code 110 = .ok (.getfield 7, 3) := by decide +kernel
theorem d_m_next_113 : decode prog_14_method_7_code 113 = .ok (.aload_n 0, 1) := by decide +kernel
theorem d_m_next_114 : decode prog_14_method_7_code 114 = .ok (.getfield 122, 3) := by decide +kernel
theorem d_m_next_117 : decode prog_14_method_7_code 117 = .ok (.iaload, 1) := by decide +kernel
theorem d_m_next_118 : decode prog_14_method_7_code 118 = .ok (.invokestatic 138, 3) := by decide +kernel
theorem d_m_next_121 : decode prog_14_method_7_code 121 = .ok (.ifCond .eq 68, 3) := by decide +kernel
theorem d_m_next_124 : decode prog_14_method_7_code 124 = .ok (.aload_n 0, 1) := by decide +kernel
theorem d_m_next_125 : decode prog_14_method_7_code 125 = .ok (.getfield 7, 3) := by decide +kernel
theorem d_m_next_128 : decode prog_14_method_7_code 128 = .ok (.aload_n 0, 1) := by decide +kernel
theorem d_m_next_129 : decode prog_14_method_7_code 129 = .ok (.getfield 122, 3) := by decide +kernel
theorem d_m_next_132 : decode prog_14_method_7_code 132 = .ok (.iaload, 1) := by decide +kernel
theorem d_m_next_133 : decode prog_14_method_7_code 133 = .ok (.istore_n 2, 1) := by decide +kernel
theorem d_m_next_134 : decode prog_14_method_7_code 134 = .ok (.aload_n 0, 1) := by decide +kernel
theorem d_m_next_135 : decode prog_14_method_7_code 135 = .ok (.aload_n 0, 1) := by decide +kernel
theorem d_m_next_136 : decode prog_14_method_7_code 136 = .ok (.getfield 134, 3) := by decide +kernel
theorem d_m_next_139 : decode prog_14_method_7_code 139 = .ok (.bipush 6, 2) := by decide +kernel
theorem d_m_next_141 : decode prog_14_method_7_code 141 = .ok (.lshl, 1) := by decide +kernel
theorem d_m_next_142 : decode prog_14_method_7_code 142 = .ok (.iload_n 2, 1) := by decide +kernel
theorem d_m_next_143 : decode prog_14_method_7_code 143 = .ok (.invokestatic 118, 3) := by decide +kernel
theorem d_m_next_146 : decode prog_14_method_7_code 146 = .ok (.ifCond .eq 10, 3) := by decide +kernel
theorem d_m_next_149 : decode prog_14_method_7_code 149 = .ok (.iload_n 2, 1) := by decide +kernel
theorem d_m_next_150 : decode prog_14_method_7_code 150 = .ok (.bipush 96, 2) := by decide +kernel
theorem d_m_next_152 : decode prog_14_method_7_code 152 = .ok (.isub, 1) := by decide +kernel
theorem d_m_next_153 : decode prog_14_method_7_code 153 = .ok (.goto 18, 3) := by decide +kernel
theorem d_m_next_156 : decode prog_14_method_7_code 156 = .ok (.iload_n 2, 1) := by decide +kernel
theorem d_m_next_157 : decode prog_14_method_7_code 157 = .ok (.bipush 95, 2) := by decide +kernel
theorem d_m_next_159 : decode prog_14_method_7_code 159 = .ok (.if_icmp .ne 8, 3) := by decide +kernel
theorem d_m_next_162 : decode prog_14_method_7_code 162 = .ok (.bipush 37, 2) := by decide +kernel
theorem d_m_next_164 : decode prog_14_method_7_code 164 = .ok (.goto 7, 3) := by decide +kernel
theorem d_m_next_167 : decode prog_14_method_7_code 167 = .ok (.iload_n 2, 1) := by decide +kernel
theorem d_m_next_168 : decode prog_14_method_7_code 168 = .ok (.bipush 21, 2) := by decide +kernel
theorem d_m_next_170 : decode prog_14_method_7_code 170 = .ok (.isub, 1) := by decide +kernel
theorem d_m_next_171 : decode prog_14_method_7_code 171 = .ok (.i2l, 1) := by decide +kernel
theorem d_m_next_172 : decode prog_14_method_7_code 172 = .ok (.lor, 1) := by decide +kernel
theorem d_m_next_173 : decode prog_14_method_7_code 173 = .ok (.putfield 134, 3) := by decide +kernel
theorem d_m_next_176 : decode prog_14_method_7_code 176 = .ok (.aload_n 0, 1) := by decide +kernel
theorem d_m_next_177 : decode prog_14_method_7_code 177 = .ok (.dup, 1) := by decide +kernel
theorem d_m_next_178 : decode prog_14_method_7_code 178 = .ok (.getfield 122, 3) := by decide +kernel
theorem d_m_next_181 : decode prog_14_method_7_code 181 = .ok (.iconst 1, 1) := by decide +kernel
theorem d_m_next_182 : decode prog_14_method_7_code 182 = .ok (.iadd, 1) := by decide +kernel
theorem d_m_next_183 : decode prog_14_method_7_code 183 = .ok (.putfield 122, 3) := by decide +kernel
theorem d_m_next_186 : decode prog_14_method_7_code 186 = .ok (.goto (-88), 3) := by decide +kernel
theorem d_m_next_189 : decode prog_14_method_7_code 189 = .ok (.aload_n 0, 1) := by decide +kernel
theorem d_m_next_190 : decode prog_14_method_7_code 190 = .ok (.iconst 1, 1) := by decide +kernel
theorem d_m_next_191 : decode prog_14_method_7_code 191 = .ok (.putfield 128, 3) := by decide +kernel
theorem d_m_next_194 : decode prog_14_method_7_code 194 = .ok (.aload_n 0, 1) := by decide +kernel
theorem d_m_next_195 : decode prog_14_method_7_code 195 = .ok (.getfield 122, 3) := by decide +kernel
theorem d_m_next_198 : decode prog_14_method_7_code 198 = .ok (.aload_n 0, 1) := by decide +kernel
theorem d_m_next_199 : decode prog_14_method_7_code 199 = .ok (.getfield 112, 3) := by decide +kernel
theorem d_m_next_202 : decode prog_14_method_7_code 202 = .ok (.isub, 1) := by decide +kernel
theorem d_m_next_203 : decode prog_14_method_7_code 203 = .ok (.bipush 9, 2) := by decide +kernel
theorem d_m_next_205 : decode prog_14_method_7_code 205 = .ok (.if_icmp .le 8, 3) := by decide +kernel
theorem d_m_next_208 : decode prog_14_method_7_code 208 = .ok (.aload_n 0, 1) := by decide +kernel
theorem d_m_next_209 : decode prog_14_method_7_code 209 = .ok (.iconst 1, 1) := by decide +kernel
theorem d_m_next_210 : decode prog_14_method_7_code 210 = .ok (.invokevirtual 141, 3) := by decide +kernel
theorem d_m_next_213 : decode prog_14_method_7_code 213 = .ok (.return_, 1) := by decide +kernel
theorem d_m_next_214 : decode prog_14_method_7_code 214 = .ok (.iload_n 1, 1) := by decide +kernel
theorem d_m_next_215 : decode prog_14_method_7_code 215 = .ok (.bipush 123, 2) := by decide +kernel
theorem d_m_next_217 : decode prog_14_method_7_code 217 = .ok (.if_icmp .eq 45, 3) := by decide +kernel
theorem d_m_next_220 : decode prog_14_method_7_code 220 = .ok (.iload_n 1, 1) := by decide +kernel
theorem d_m_next_221 : decode prog_14_method_7_code 221 = .ok (.bipush 125, 2) := by decide +kernel
theorem d_m_next_223 : decode prog_14_method_7_code 223 = .ok (.if_icmp .eq 39, 3) := by decide +kernel
theorem d_m_next_226 : decode prog_14_method_7_code 226 = .ok (.iload_n 1, 1) := by decide +kernel
theorem d_m_next_227 : decode prog_14_method_7_code 227 = .ok (.bipush 58, 2) := by decide +kernel
theorem d_m_next_229 : decode prog_14_method_7_code 229 = .ok (.if_icmp .eq 33, 3) := by decide +kernel
theorem d_m_next_232 : decode prog_14_method_7_code 232 = .ok (.iload_n 1, 1) := by decide +kernel
theorem d_m_next_233 : decode prog_14_method_7_code 233 = .ok (.bipush 59, 2) := by decide +kernel
theorem d_m_next_235 : decode prog_14_method_7_code 235 = .ok (.if_icmp .eq 27, 3) := by decide +kernel
theorem d_m_next_238 : decode prog_14_method_7_code 238 = .ok (.iload_n 1, 1) := by decide +kernel
theorem d_m_next_239 : decode prog_14_method_7_code 239 = .ok (.bipush 44, 2) := by decide +kernel
theorem d_m_next_241 : decode prog_14_method_7_code 241 = .ok (.if_icmp .eq 21, 3) := by decide +kernel
theorem d_m_next_244 : decode prog_14_method_7_code 244 = .ok (.iload_n 1, 1) := by decide +kernel
theorem d_m_next_245 : decode prog_14_method_7_code 245 = .ok (.bipush 126, 2) := by decide +kernel
theorem d_m_next_247 : decode prog_14_method_7_code 247 = .ok (.if_icmp .eq 15, 3) := by decide +kernel
theorem d_m_next_250 : decode prog_14_method_7_code 250 = .ok (.iload_n 1, 1) := by decide +kernel
theorem d_m_next_251 : decode prog_14_method_7_code 251 = .ok (.bipush 42, 2) := by decide +kernel
theorem d_m_next_253 : decode prog_14_method_7_code 253 = .ok (.if_icmp .eq 9, 3) := by decide +kernel
theorem d_m_next_256 : decode prog_14_method_7_code 256 = .ok (.iload_n 1, 1) := by decide +kernel
theorem d_m_next_257 : decode prog_14_method_7_code 257 = .ok (.bipush 45, 2) := by decide +kernel
theorem d_m_next_259 : decode prog_14_method_7_code 259 = .ok (.if_icmp .ne 7, 3) := by decide +kernel
theorem d_m_next_262 : decode prog_14_method_7_code 262 = .ok (.iconst 1, 1) := by decide +kernel
theorem d_m_next_263 : decode prog_14_method_7_code 263 = .ok (.goto 4, 3) := by decide +kernel
theorem d_m_next_266 : decode prog_14_method_7_code 266 = .ok (.iconst 0, 1) := by decide +kernel
theorem d_m_next_267 : decode prog_14_method_7_code 267 = .ok (.istore_n 2, 1) := by decide +kernel
theorem d_m_next_268 : decode prog_14_method_7_code 268 = .ok (.aload_n 0, 1) := by decide +kernel
theorem d_m_next_269 : decode prog_14_method_7_code 269 = .ok (.iconst 2, 1) := by decide +kernel
theorem d_m_next_270 : decode prog_14_method_7_code 270 = .ok (.putfield 128, 3) := by decide +kernel
theorem d_m_next_273 : decode prog_14_method_7_code 273 = .ok (.aload_n 0, 1) := by decide +kernel
theorem d_m_next_274 : decode prog_14_method_7_code 274 = .ok (.iload_n 1, 1) := by decide +kernel
theorem d_m_next_275 : decode prog_14_method_7_code 275 = .ok (.putfield 131, 3) := by decide +kernel
theorem d_m_next_278 : decode prog_14_method_7_code 278 = .ok (.aload_n 0, 1) := by decide +kernel
theorem d_m_next_279 : decode prog_14_method_7_code 279 = .ok (.dup, 1) := by decide +kernel
theorem d_m_next_280 : decode prog_14_method_7_code 280 = .ok (.getfield 122, 3) := by decide +kernel
theorem d_m_next_283 : decode prog_14_method_7_code 283 = .ok (.iconst 1, 1) := by decide +kernel
theorem d_m_next_284 : decode prog_14_method_7_code 284 = .ok (.iadd, 1) := by decide +kernel
theorem d_m_next_285 : decode prog_14_method_7_code 285 = .ok (.putfield 122, 3) := by decide +kernel
theorem d_m_next_288 : decode prog_14_method_7_code 288 = .ok (.iload_n 2, 1) := by decide +kernel
theorem d_m_next_289 : decode prog_14_method_7_code 289 = .ok (.ifCond .ne 8, 3) := by decide +kernel
theorem d_m_next_292 : decode prog_14_method_7_code 292 = .ok (.aload_n 0, 1) := by decide +kernel
theorem d_m_next_293 : decode prog_14_method_7_code 293 = .ok (.iconst 1, 1) := by decide +kernel
theorem d_m_next_294 : decode prog_14_method_7_code 294 = .ok (.invokevirtual 141, 3) := by decide +kernel
theorem d_m_next_297 : decode prog_14_method_7_code 297 = .ok (.return_, 1) := by decide +kernel
def m_next_J189 (S_189 : MS) : Option MS := (bd (pI S_189 0 5 1) fun S191 => (if ((gI S191 0 4) - (gI S191 0 3)) ≤ 9 then some S191 else ((m_fail 1 S191).bind fun q210 => some q210)))
def m_next_J171 (kO98 : MS → Option MS) (s0_171 : Int32) (s1_171 : Int64) (S_171 : MS) : Option MS := (bd (pL S_171 0 11 (s1_171 ||| ((s0_171).toInt64))) fun S173 => (bd (pI S173 0 4 ((gI S173 0 4) + 1)) fun S183 => kO98 S183))
def m_next_L98  : Nat → MS → Option MS
  | 0, _ => none
  | n + 1, S_98 => (if (gI S_98 0 2) ≤ (gI S_98 0 4) then m_next_J189 S_98 else (if inbd (gI S_98 0 4) 480 = true then ((m_isPart (gI S_98 1 (txN (gI S_98 0 4)))).bind fun q118 => (if q118 = true then (if inbd (gI S_98 0 4) 480 = true then (bd ((gI S_98 1 (txN (gI S_98 0 4)))) fun a133 => ((m_isLetter a133).bind fun q143 => (if q143 = true then m_next_J171 (m_next_L98 n) (a133 - 96) (lSh (gL S_98 0 11) 6) S_98 else (if a133 = 95 then m_next_J171 (m_next_L98 n) 37 (lSh (gL S_98 0 11) 6) S_98 else m_next_J171 (m_next_L98 n) (a133 - 21) (lSh (gL S_98 0 11) 6) S_98)))) else none) else m_next_J189 S_98)) else none))
def m_next_J267 (v1_267 : Int32) (s0_267 : Bool) (S_267 : MS) : Option MS := (bd (pI S_267 0 5 2) fun S270 => (bd (pI S270 0 6 v1_267) fun S275 => (bd (pI S275 0 4 ((gI S275 0 4) + 1)) fun S285 => (if s0_267 = true then some S285 else ((m_fail 1 S285).bind fun q294 => some q294)))))
def m_next_J262 (v1_262 : Int32) (S_262 : MS) : Option MS := m_next_J267 v1_262 true S_262
def m_next_J46 (S_46 : MS) : Option MS := (bd (pI S_46 0 3 (gI S_46 0 4)) fun S51 => (bd (pI S51 0 5 0) fun S56 => (bd (pI S56 0 6 0) fun S61 => (bd (pL S61 0 11 0) fun S66 => (if (gI S66 0 3) = (gI S66 0 2) then some S66 else (if inbd (gI S66 0 3) 480 = true then (bd ((gI S66 1 (txN (gI S66 0 3)))) fun a90 => ((m_isLetter a90).bind fun q92 => (if q92 = true then m_next_L98  600 S66 else (if a90 = 123 then m_next_J262 a90 S66 else (if a90 = 125 then m_next_J262 a90 S66 else (if a90 = 58 then m_next_J262 a90 S66 else (if a90 = 59 then m_next_J262 a90 S66 else (if a90 = 44 then m_next_J262 a90 S66 else (if a90 = 126 then m_next_J262 a90 S66 else (if a90 = 42 then m_next_J262 a90 S66 else (if a90 = 45 then m_next_J262 a90 S66 else m_next_J267 a90 false S66))))))))))) else none))))))
def m_next_L8  : Nat → MS → Option MS
  | 0, _ => none
  | n + 1, S_8 => (if (gI S_8 0 2) ≤ (gI S_8 0 4) then m_next_J46 S_8 else (if inbd (gI S_8 0 4) 480 = true then (if (gI S_8 1 (txN (gI S_8 0 4))) = 32 then (bd (pI S_8 0 4 ((gI S_8 0 4) + 1)) fun S40 => (m_next_L8 n) S40) else m_next_J46 S_8) else none))
def m_next (S : MS) : Option MS := (if (gI S 0 7) = 0 then m_next_L8  600 S else some S)
set_option maxHeartbeats 4000000 in
set_option maxRecDepth 100000 in
theorem M_m_next {l : Launch} {D : va_G} {cA : Nat → ClassId} {b : Nat} {ad : Nat → Nat}  {S : MS} {T : CS} {o : Nat → Int64} {rr : MS}  (h : m_next  S = some rr) : Met l y_m_next (Cond.code y_m_next prog_14_method_7_code 3 (Option.none : Option Jvm.ClassFile.FieldType) :: TW) { frames := 2, cells := 0, slots := 0, locals := 40 } (va_Pc [.ref (b + 262)] (Rp D cA b ad (T, S, o))) (Qr D cA b ad (T, rr, o) none) 0 0 (Ab b) := by
  refine Ct_of (by decide) (Nat.le_of_ble_eq_true rfl) ?_
  intro p e R s m args below meth c ls Q H locs hR hQ hx hb hts hown hml hr hlk hC hX hS hl
  have hRf : R.frames = 2 := by rw [hR]
  have hRl : R.locals = 40 := by rw [hR]
  have hown : s.vm.findClass "TypeGuardModel" = some m.cls := hown
  have hl : lv_has ls 3 [(0, .ref (b + 262))] := hl
  rw [m_next] at h
  refine lv_aload_n hx hb d_m_next_0 rfl (lv_at hl 0 rfl) ?_
  refine m_get_0_7 hx hb hts hown hC hX (by rfl) (hts _ t_994) d_m_next_1 ?_
  refine lv_if_eq hx hb d_m_next_4 (tgt := 8) (by decide) (fun hc => ?_) (fun hc => ?_)
  · rw [if_pos hc] at h
    have L8 : ∀ (n8 : Nat) (S_8 : MS) (H : Heap) (locs : List Loc) (ls : Array Slot), hp D cA b ad (T, S_8, o) H → va_S (Ab b) s.heap H locs → lv_has ls 3 [(0, .ref (b + 262))] → m_next_L8  n8 S_8 = some rr → W p l e R s m args below meth c H locs 0 0 Q (F0 m 8 ls []) := by
      intro n8; induction n8 with
      | zero => intro S_8 H locs ls  hX hS hl h; rw [m_next_L8] at h; cases h
      | succ n8 ih8 =>
        intro S_8 H locs ls  hX hS hl h
        rw [m_next_L8] at h
        refine lv_aload_n hx hb d_m_next_8 rfl (lv_at hl 0 rfl) ?_
        refine m_get_0_4 hx hb hts hown hC hX (by rfl) (hts _ t_991) d_m_next_9 ?_
        refine lv_aload_n hx hb d_m_next_12 rfl (lv_at hl 0 rfl) ?_
        refine m_get_0_2 hx hb hts hown hC hX (by rfl) (hts _ t_989) d_m_next_13 ?_
        have J46 : ∀  (H : Heap) (locs : List Loc) (ls : Array Slot), hp D cA b ad (T, S_8, o) H → va_S (Ab b) s.heap H locs → lv_has ls 3 [(0, .ref (b + 262))] → m_next_J46 S_8 = some rr → W p l e R s m args below meth c H locs 0 0 Q (F0 m 46 ls []) := by
          intro  H locs ls  hX hS hl h
          rw [m_next_J46] at h
          refine lv_aload_n hx hb d_m_next_46 rfl (lv_at hl 0 rfl) ?_
          refine lv_aload_n hx hb d_m_next_47 rfl (lv_at hl 0 rfl) ?_
          refine m_get_0_4 hx hb hts hown hC hX (by rfl) (hts _ t_991) d_m_next_48 ?_
          refine m_put_0_3 (v := (gI S_8 0 4)) hx hb hts hown hC hX hS (by rfl) (hts _ t_990) d_m_next_51 (fun H locs hX hS => ?_)
          obtain ⟨S51, e51, h⟩ := bd_some h
          rw [← e51] at hX
          refine lv_aload_n hx hb d_m_next_54 rfl (lv_at hl 0 rfl) ?_
          refine lv_iconst (v := 0) hx hb d_m_next_55 (by decide) ?_
          refine m_put_0_5 (v := 0) hx hb hts hown hC hX hS (by rfl) (hts _ t_992) d_m_next_56 (fun H locs hX hS => ?_)
          obtain ⟨S56, e56, h⟩ := bd_some h
          rw [← e56] at hX
          refine lv_aload_n hx hb d_m_next_59 rfl (lv_at hl 0 rfl) ?_
          refine lv_iconst (v := 0) hx hb d_m_next_60 (by decide) ?_
          refine m_put_0_6 (v := 0) hx hb hts hown hC hX hS (by rfl) (hts _ t_993) d_m_next_61 (fun H locs hX hS => ?_)
          obtain ⟨S61, e61, h⟩ := bd_some h
          rw [← e61] at hX
          refine lv_aload_n hx hb d_m_next_64 rfl (lv_at hl 0 rfl) ?_
          refine lv_lconst (v := 0) hx hb d_m_next_65 (by decide) ?_
          refine m_put_0_11 (v := 0) hx hb hts hown hC hX hS (by rfl) (hts _ t_998) d_m_next_66 (fun H locs hX hS => ?_)
          obtain ⟨S66, e66, h⟩ := bd_some h
          rw [← e66] at hX
          refine lv_aload_n hx hb d_m_next_69 rfl (lv_at hl 0 rfl) ?_
          refine m_get_0_3 hx hb hts hown hC hX (by rfl) (hts _ t_990) d_m_next_70 ?_
          refine lv_aload_n hx hb d_m_next_73 rfl (lv_at hl 0 rfl) ?_
          refine m_get_0_2 hx hb hts hown hC hX (by rfl) (hts _ t_989) d_m_next_74 ?_
          refine lv_icmp_ne hx hb d_m_next_77 (tgt := 81) (by decide) (fun hc => ?_) (fun hc => ?_)
          · rw [if_neg hc] at h
            refine lv_aload_n hx hb d_m_next_81 rfl (lv_at hl 0 rfl) ?_
            refine m_get_0_1 hx hb hts hown hC hX (by rfl) (hts _ t_988) d_m_next_82 ?_
            refine lv_aload_n hx hb d_m_next_85 rfl (lv_at hl 0 rfl) ?_
            refine m_get_0_3 hx hb hts hown hC hX (by rfl) (hts _ t_990) d_m_next_86 ?_
            by_cases hg89 : inbd (gI S66 0 3) 480 = true
            rotate_left; · rw [if_neg hg89] at h; cases h
            rw [if_pos hg89] at h
            refine m_ald_1 (k := 1) hx hb hC hX (by rfl) hg89 d_m_next_89 ?_
            obtain ⟨a90, e90, h⟩ := bd_some h
            refine lt_I e90 ?_
            refine lv_istore_n (lv' := [(1, .int a90), (0, .ref (b + 262))]) hx hb d_m_next_90 rfl hl (by decide) rfl (fun ls hl => ?_)
            refine lv_iload_n hx hb d_m_next_91 rfl (lv_at hl 0 rfl) ?_
            obtain ⟨q92, hc92, h⟩ := Option.bind_eq_some_iff.mp h
            refine ck_S (As := [.int a90]) (rest := []) (st1 := [.int (bI q92)]) (M_m_isLetter  hc92) t_1153 t_1154 t_1155 t_13 hx hb hts hown hC hX hS  hml hl.1 ⟨by rw [hRf]; decide, by rw [hRl]; decide⟩ ⟨rfl, rfl⟩ (n := 1) (by decide +kernel) rfl rfl rfl (lv_room (Nat.le_of_ble_eq_true rfl)) d_m_next_92 (fun H locs hX hS => ?_)
            refine lz_ifeq hx hb d_m_next_95 (tgt := 214) (by decide) (fun hc => ?_) (fun hc => ?_)
            · rw [if_neg hc] at h
              refine lv_iload_n hx hb d_m_next_214 rfl (lv_at hl 0 rfl) ?_
              refine lv_bipush (v := 123) hx hb d_m_next_215 (by decide) ?_
              have J267 : ∀ (s0_267 : Bool) (H : Heap) (locs : List Loc) (ls : Array Slot), hp D cA b ad (T, S66, o) H → va_S (Ab b) s.heap H locs → lv_has ls 3 [(0, .ref (b + 262)), (1, .int a90)] → m_next_J267 a90 s0_267 S66 = some rr → W p l e R s m args below meth c H locs 0 0 Q (F0 m 267 ls [.int (bI s0_267)]) := by
                intro s0_267 H locs ls  hX hS hl h
                rw [m_next_J267] at h
                refine lv_istore_n (lv' := [(2, .int (bI s0_267)), (0, .ref (b + 262)), (1, .int a90)]) hx hb d_m_next_267 rfl hl (by decide) rfl (fun ls hl => ?_)
                refine lv_aload_n hx hb d_m_next_268 rfl (lv_at hl 1 rfl) ?_
                refine lv_iconst (v := 2) hx hb d_m_next_269 (by decide) ?_
                refine m_put_0_5 (v := 2) hx hb hts hown hC hX hS (by rfl) (hts _ t_992) d_m_next_270 (fun H locs hX hS => ?_)
                obtain ⟨S270, e270, h⟩ := bd_some h
                rw [← e270] at hX
                refine lv_aload_n hx hb d_m_next_273 rfl (lv_at hl 1 rfl) ?_
                refine lv_iload_n hx hb d_m_next_274 rfl (lv_at hl 2 rfl) ?_
                refine m_put_0_6 (v := a90) hx hb hts hown hC hX hS (by rfl) (hts _ t_993) d_m_next_275 (fun H locs hX hS => ?_)
                obtain ⟨S275, e275, h⟩ := bd_some h
                rw [← e275] at hX
                refine lv_aload_n hx hb d_m_next_278 rfl (lv_at hl 1 rfl) ?_
                refine lv_dup hx hb d_m_next_279 rfl ?_
                refine m_get_0_4 hx hb hts hown hC hX (by rfl) (hts _ t_991) d_m_next_280 ?_
                refine lv_iconst (v := 1) hx hb d_m_next_283 (by decide) ?_
                refine lv_iadd hx hb d_m_next_284 ?_
                refine m_put_0_4 (v := ((gI S275 0 4) + 1)) hx hb hts hown hC hX hS (by rfl) (hts _ t_991) d_m_next_285 (fun H locs hX hS => ?_)
                obtain ⟨S285, e285, h⟩ := bd_some h
                rw [← e285] at hX
                refine lv_iload_n hx hb d_m_next_288 rfl (lv_at hl 0 rfl) ?_
                refine lz_ifne hx hb d_m_next_289 (tgt := 297) (by decide) (fun hc => ?_) (fun hc => ?_)
                · rw [if_pos hc] at h
                  obtain rfl := Option.some.inj h
                  exact rt_v hQ hx hb hr hX hS hlk d_m_next_297
                · rw [if_neg hc] at h
                  refine lv_aload_n hx hb d_m_next_292 rfl (lv_at hl 1 rfl) ?_
                  refine lv_iconst (v := 1) hx hb d_m_next_293 (by decide) ?_
                  obtain ⟨q294, hc294, h⟩ := Option.bind_eq_some_iff.mp h
                  refine ck_V (As := [.int 1]) (rest := []) (st1 := []) (M_m_fail  hc294) t_1159 t_1161 p_40 t_1162 t_13 hx hb hts hown hC hX hS (hrc_m0 hC hX (by rfl)) hml hl.1 ⟨by rw [hRf]; decide, by rw [hRl]; decide⟩ ⟨rfl, rfl⟩ (n := 1) (by decide +kernel) rfl rfl rfl (lv_room (Nat.le_of_ble_eq_true rfl)) d_m_next_294 (fun H locs hX hS => ?_)
                  obtain rfl := Option.some.inj h
                  exact rt_v hQ hx hb hr hX hS hlk d_m_next_297
              have J262 : ∀  (H : Heap) (locs : List Loc) (ls : Array Slot), hp D cA b ad (T, S66, o) H → va_S (Ab b) s.heap H locs → lv_has ls 3 [(0, .ref (b + 262)), (1, .int a90)] → m_next_J262 a90 S66 = some rr → W p l e R s m args below meth c H locs 0 0 Q (F0 m 262 ls []) := by
                intro  H locs ls  hX hS hl h
                rw [m_next_J262] at h
                refine lv_iconst (v := 1) hx hb d_m_next_262 (by decide) ?_
                refine lv_goto hx hb d_m_next_263 (tgt := 267) (by decide) ?_
                exact J267 true H locs ls  hX hS (lv_sub hl [0, 1] rfl) h
              refine lv_icmp_eq hx hb d_m_next_217 (tgt := 262) (by decide) (fun hc => ?_) (fun hc => ?_)
              · rw [if_pos hc] at h
                exact J262  H locs ls  hX hS (lv_sub hl [1, 0] rfl) h
              · rw [if_neg hc] at h
                refine lv_iload_n hx hb d_m_next_220 rfl (lv_at hl 0 rfl) ?_
                refine lv_bipush (v := 125) hx hb d_m_next_221 (by decide) ?_
                refine lv_icmp_eq hx hb d_m_next_223 (tgt := 262) (by decide) (fun hc => ?_) (fun hc => ?_)
                · rw [if_pos hc] at h
                  exact J262  H locs ls  hX hS (lv_sub hl [1, 0] rfl) h
                · rw [if_neg hc] at h
                  refine lv_iload_n hx hb d_m_next_226 rfl (lv_at hl 0 rfl) ?_
                  refine lv_bipush (v := 58) hx hb d_m_next_227 (by decide) ?_
                  refine lv_icmp_eq hx hb d_m_next_229 (tgt := 262) (by decide) (fun hc => ?_) (fun hc => ?_)
                  · rw [if_pos hc] at h
                    exact J262  H locs ls  hX hS (lv_sub hl [1, 0] rfl) h
                  · rw [if_neg hc] at h
                    refine lv_iload_n hx hb d_m_next_232 rfl (lv_at hl 0 rfl) ?_
                    refine lv_bipush (v := 59) hx hb d_m_next_233 (by decide) ?_
                    refine lv_icmp_eq hx hb d_m_next_235 (tgt := 262) (by decide) (fun hc => ?_) (fun hc => ?_)
                    · rw [if_pos hc] at h
                      exact J262  H locs ls  hX hS (lv_sub hl [1, 0] rfl) h
                    · rw [if_neg hc] at h
                      refine lv_iload_n hx hb d_m_next_238 rfl (lv_at hl 0 rfl) ?_
                      refine lv_bipush (v := 44) hx hb d_m_next_239 (by decide) ?_
                      refine lv_icmp_eq hx hb d_m_next_241 (tgt := 262) (by decide) (fun hc => ?_) (fun hc => ?_)
                      · rw [if_pos hc] at h
                        exact J262  H locs ls  hX hS (lv_sub hl [1, 0] rfl) h
                      · rw [if_neg hc] at h
                        refine lv_iload_n hx hb d_m_next_244 rfl (lv_at hl 0 rfl) ?_
                        refine lv_bipush (v := 126) hx hb d_m_next_245 (by decide) ?_
                        refine lv_icmp_eq hx hb d_m_next_247 (tgt := 262) (by decide) (fun hc => ?_) (fun hc => ?_)
                        · rw [if_pos hc] at h
                          exact J262  H locs ls  hX hS (lv_sub hl [1, 0] rfl) h
                        · rw [if_neg hc] at h
                          refine lv_iload_n hx hb d_m_next_250 rfl (lv_at hl 0 rfl) ?_
                          refine lv_bipush (v := 42) hx hb d_m_next_251 (by decide) ?_
                          refine lv_icmp_eq hx hb d_m_next_253 (tgt := 262) (by decide) (fun hc => ?_) (fun hc => ?_)
                          · rw [if_pos hc] at h
                            exact J262  H locs ls  hX hS (lv_sub hl [1, 0] rfl) h
                          · rw [if_neg hc] at h
                            refine lv_iload_n hx hb d_m_next_256 rfl (lv_at hl 0 rfl) ?_
                            refine lv_bipush (v := 45) hx hb d_m_next_257 (by decide) ?_
                            refine lv_icmp_ne hx hb d_m_next_259 (tgt := 266) (by decide) (fun hc => ?_) (fun hc => ?_)
                            · rw [if_neg hc] at h
                              refine lv_iconst (v := 0) hx hb d_m_next_266 (by decide) ?_
                              exact J267 false H locs ls  hX hS (lv_sub hl [1, 0] rfl) h
                            · rw [if_pos hc] at h
                              exact J262  H locs ls  hX hS (lv_sub hl [1, 0] rfl) h
            · rw [if_pos hc] at h
              have L98 : ∀ (n98 : Nat) (S_98 : MS) (H : Heap) (locs : List Loc) (ls : Array Slot), hp D cA b ad (T, S_98, o) H → va_S (Ab b) s.heap H locs → lv_has ls 3 [(0, .ref (b + 262))] → m_next_L98  n98 S_98 = some rr → W p l e R s m args below meth c H locs 0 0 Q (F0 m 98 ls []) := by
                intro n98; induction n98 with
                | zero => intro S_98 H locs ls  hX hS hl h; rw [m_next_L98] at h; cases h
                | succ n98 ih98 =>
                  intro S_98 H locs ls  hX hS hl h
                  rw [m_next_L98] at h
                  refine lv_aload_n hx hb d_m_next_98 rfl (lv_at hl 0 rfl) ?_
                  refine m_get_0_4 hx hb hts hown hC hX (by rfl) (hts _ t_991) d_m_next_99 ?_
                  refine lv_aload_n hx hb d_m_next_102 rfl (lv_at hl 0 rfl) ?_
                  refine m_get_0_2 hx hb hts hown hC hX (by rfl) (hts _ t_989) d_m_next_103 ?_
                  have J189 : ∀  (H : Heap) (locs : List Loc) (ls : Array Slot), hp D cA b ad (T, S_98, o) H → va_S (Ab b) s.heap H locs → lv_has ls 3 [(0, .ref (b + 262))] → m_next_J189 S_98 = some rr → W p l e R s m args below meth c H locs 0 0 Q (F0 m 189 ls []) := by
                    intro  H locs ls  hX hS hl h
                    rw [m_next_J189] at h
                    refine lv_aload_n hx hb d_m_next_189 rfl (lv_at hl 0 rfl) ?_
                    refine lv_iconst (v := 1) hx hb d_m_next_190 (by decide) ?_
                    refine m_put_0_5 (v := 1) hx hb hts hown hC hX hS (by rfl) (hts _ t_992) d_m_next_191 (fun H locs hX hS => ?_)
                    obtain ⟨S191, e191, h⟩ := bd_some h
                    rw [← e191] at hX
                    refine lv_aload_n hx hb d_m_next_194 rfl (lv_at hl 0 rfl) ?_
                    refine m_get_0_4 hx hb hts hown hC hX (by rfl) (hts _ t_991) d_m_next_195 ?_
                    refine lv_aload_n hx hb d_m_next_198 rfl (lv_at hl 0 rfl) ?_
                    refine m_get_0_3 hx hb hts hown hC hX (by rfl) (hts _ t_990) d_m_next_199 ?_
                    refine lv_isub hx hb d_m_next_202 ?_
                    refine lv_bipush (v := 9) hx hb d_m_next_203 (by decide) ?_
                    refine lv_icmp_le hx hb d_m_next_205 (tgt := 213) (by decide) (fun hc => ?_) (fun hc => ?_)
                    · rw [if_pos hc] at h
                      obtain rfl := Option.some.inj h
                      exact rt_v hQ hx hb hr hX hS hlk d_m_next_213
                    · rw [if_neg hc] at h
                      refine lv_aload_n hx hb d_m_next_208 rfl (lv_at hl 0 rfl) ?_
                      refine lv_iconst (v := 1) hx hb d_m_next_209 (by decide) ?_
                      obtain ⟨q210, hc210, h⟩ := Option.bind_eq_some_iff.mp h
                      refine ck_V (As := [.int 1]) (rest := []) (st1 := []) (M_m_fail  hc210) t_1159 t_1161 p_40 t_1162 t_13 hx hb hts hown hC hX hS (hrc_m0 hC hX (by rfl)) hml hl.1 ⟨by rw [hRf]; decide, by rw [hRl]; decide⟩ ⟨rfl, rfl⟩ (n := 1) (by decide +kernel) rfl rfl rfl (lv_room (Nat.le_of_ble_eq_true rfl)) d_m_next_210 (fun H locs hX hS => ?_)
                      obtain rfl := Option.some.inj h
                      exact rt_v hQ hx hb hr hX hS hlk d_m_next_213
                  refine lv_icmp_ge hx hb d_m_next_106 (tgt := 189) (by decide) (fun hc => ?_) (fun hc => ?_)
                  · rw [if_pos hc] at h
                    exact J189  H locs ls  hX hS (lv_sub hl [0] rfl) h
                  · rw [if_neg hc] at h
                    refine lv_aload_n hx hb d_m_next_109 rfl (lv_at hl 0 rfl) ?_
                    refine m_get_0_1 hx hb hts hown hC hX (by rfl) (hts _ t_988) d_m_next_110 ?_
                    refine lv_aload_n hx hb d_m_next_113 rfl (lv_at hl 0 rfl) ?_
                    refine m_get_0_4 hx hb hts hown hC hX (by rfl) (hts _ t_991) d_m_next_114 ?_
                    by_cases hg117 : inbd (gI S_98 0 4) 480 = true
                    rotate_left; · rw [if_neg hg117] at h; cases h
                    rw [if_pos hg117] at h
                    refine m_ald_1 (k := 1) hx hb hC hX (by rfl) hg117 d_m_next_117 ?_
                    obtain ⟨q118, hc118, h⟩ := Option.bind_eq_some_iff.mp h
                    refine ck_S (As := [.int (gI S_98 1 (txN (gI S_98 0 4)))]) (rest := []) (st1 := [.int (bI q118)]) (M_m_isPart  hc118) t_1156 t_1157 t_1158 t_13 hx hb hts hown hC hX hS  hml hl.1 ⟨by rw [hRf]; decide, by rw [hRl]; decide⟩ ⟨rfl, rfl⟩ (n := 1) (by decide +kernel) rfl rfl rfl (lv_room (Nat.le_of_ble_eq_true rfl)) d_m_next_118 (fun H locs hX hS => ?_)
                    refine lz_ifeq hx hb d_m_next_121 (tgt := 189) (by decide) (fun hc => ?_) (fun hc => ?_)
                    · rw [if_neg hc] at h
                      exact J189  H locs ls  hX hS (lv_sub hl [0] rfl) h
                    · rw [if_pos hc] at h
                      refine lv_aload_n hx hb d_m_next_124 rfl (lv_at hl 0 rfl) ?_
                      refine m_get_0_1 hx hb hts hown hC hX (by rfl) (hts _ t_988) d_m_next_125 ?_
                      refine lv_aload_n hx hb d_m_next_128 rfl (lv_at hl 0 rfl) ?_
                      refine m_get_0_4 hx hb hts hown hC hX (by rfl) (hts _ t_991) d_m_next_129 ?_
                      by_cases hg132 : inbd (gI S_98 0 4) 480 = true
                      rotate_left; · rw [if_neg hg132] at h; cases h
                      rw [if_pos hg132] at h
                      refine m_ald_1 (k := 1) hx hb hC hX (by rfl) hg132 d_m_next_132 ?_
                      obtain ⟨a133, e133, h⟩ := bd_some h
                      refine lt_I e133 ?_
                      refine lv_istore_n (lv' := [(2, .int a133), (0, .ref (b + 262))]) hx hb d_m_next_133 rfl hl (by decide) rfl (fun ls hl => ?_)
                      refine lv_aload_n hx hb d_m_next_134 rfl (lv_at hl 1 rfl) ?_
                      refine lv_aload_n hx hb d_m_next_135 rfl (lv_at hl 1 rfl) ?_
                      refine m_get_0_11 hx hb hts hown hC hX (by rfl) (hts _ t_998) d_m_next_136 ?_
                      refine lv_bipush (v := 6) hx hb d_m_next_139 (by decide) ?_
                      refine lv_lshl (v := (lSh (gL S_98 0 11) 6)) hx hb d_m_next_141 rfl ?_
                      refine lv_iload_n hx hb d_m_next_142 rfl (lv_at hl 0 rfl) ?_
                      obtain ⟨q143, hc143, h⟩ := Option.bind_eq_some_iff.mp h
                      refine ck_S (As := [.int a133]) (rest := [.long (lSh (gL S_98 0 11) 6), .ref (b + 262)]) (st1 := [.int (bI q143), .long (lSh (gL S_98 0 11) 6), .ref (b + 262)]) (M_m_isLetter  hc143) t_1153 t_1154 t_1155 t_13 hx hb hts hown hC hX hS  hml hl.1 ⟨by rw [hRf]; decide, by rw [hRl]; decide⟩ ⟨rfl, rfl⟩ (n := 1) (by decide +kernel) rfl rfl rfl (lv_room (Nat.le_of_ble_eq_true rfl)) d_m_next_143 (fun H locs hX hS => ?_)
                      have J171 : ∀ (s0_171 : Int32) (H : Heap) (locs : List Loc) (ls : Array Slot), hp D cA b ad (T, S_98, o) H → va_S (Ab b) s.heap H locs → lv_has ls 3 [(0, .ref (b + 262))] → m_next_J171 (m_next_L98  n98) s0_171 (lSh (gL S_98 0 11) 6) S_98 = some rr → W p l e R s m args below meth c H locs 0 0 Q (F0 m 171 ls [.int s0_171, .long (lSh (gL S_98 0 11) 6), .ref (b + 262)]) := by
                        intro s0_171 H locs ls  hX hS hl h
                        rw [m_next_J171] at h
                        refine lv_i2l (v := ((s0_171).toInt64)) hx hb d_m_next_171 rfl ?_
                        refine lv_lor hx hb d_m_next_172 ?_
                        refine m_put_0_11 (v := ((lSh (gL S_98 0 11) 6) ||| ((s0_171).toInt64))) hx hb hts hown hC hX hS (by rfl) (hts _ t_998) d_m_next_173 (fun H locs hX hS => ?_)
                        obtain ⟨S173, e173, h⟩ := bd_some h
                        rw [← e173] at hX
                        refine lv_aload_n hx hb d_m_next_176 rfl (lv_at hl 0 rfl) ?_
                        refine lv_dup hx hb d_m_next_177 rfl ?_
                        refine m_get_0_4 hx hb hts hown hC hX (by rfl) (hts _ t_991) d_m_next_178 ?_
                        refine lv_iconst (v := 1) hx hb d_m_next_181 (by decide) ?_
                        refine lv_iadd hx hb d_m_next_182 ?_
                        refine m_put_0_4 (v := ((gI S173 0 4) + 1)) hx hb hts hown hC hX hS (by rfl) (hts _ t_991) d_m_next_183 (fun H locs hX hS => ?_)
                        obtain ⟨S183, e183, h⟩ := bd_some h
                        rw [← e183] at hX
                        refine lv_goto hx hb d_m_next_186 (tgt := 98) (by decide) ?_
                        exact ih98 S183 H locs ls  hX hS (lv_sub hl [0] rfl) h
                      refine lz_ifeq hx hb d_m_next_146 (tgt := 156) (by decide) (fun hc => ?_) (fun hc => ?_)
                      · rw [if_neg hc] at h
                        refine lv_iload_n hx hb d_m_next_156 rfl (lv_at hl 0 rfl) ?_
                        refine lv_bipush (v := 95) hx hb d_m_next_157 (by decide) ?_
                        refine lv_icmp_ne hx hb d_m_next_159 (tgt := 167) (by decide) (fun hc => ?_) (fun hc => ?_)
                        · rw [if_neg hc] at h
                          refine lv_iload_n hx hb d_m_next_167 rfl (lv_at hl 0 rfl) ?_
                          refine lv_bipush (v := 21) hx hb d_m_next_168 (by decide) ?_
                          refine lv_isub hx hb d_m_next_170 ?_
                          exact J171 (a133 - 21) H locs ls  hX hS (lv_sub hl [1] rfl) h
                        · rw [if_pos hc] at h
                          refine lv_bipush (v := 37) hx hb d_m_next_162 (by decide) ?_
                          refine lv_goto hx hb d_m_next_164 (tgt := 171) (by decide) ?_
                          exact J171 37 H locs ls  hX hS (lv_sub hl [1] rfl) h
                      · rw [if_pos hc] at h
                        refine lv_iload_n hx hb d_m_next_149 rfl (lv_at hl 0 rfl) ?_
                        refine lv_bipush (v := 96) hx hb d_m_next_150 (by decide) ?_
                        refine lv_isub hx hb d_m_next_152 ?_
                        refine lv_goto hx hb d_m_next_153 (tgt := 171) (by decide) ?_
                        exact J171 (a133 - 96) H locs ls  hX hS (lv_sub hl [1] rfl) h
              exact L98 600 S66 H locs ls  hX hS (lv_sub hl [1] rfl) h
          · rw [if_pos hc] at h
            obtain rfl := Option.some.inj h
            exact rt_v hQ hx hb hr hX hS hlk d_m_next_80
        refine lv_icmp_ge hx hb d_m_next_16 (tgt := 46) (by decide) (fun hc => ?_) (fun hc => ?_)
        · rw [if_pos hc] at h
          exact J46  H locs ls  hX hS (lv_sub hl [0] rfl) h
        · rw [if_neg hc] at h
          refine lv_aload_n hx hb d_m_next_19 rfl (lv_at hl 0 rfl) ?_
          refine m_get_0_1 hx hb hts hown hC hX (by rfl) (hts _ t_988) d_m_next_20 ?_
          refine lv_aload_n hx hb d_m_next_23 rfl (lv_at hl 0 rfl) ?_
          refine m_get_0_4 hx hb hts hown hC hX (by rfl) (hts _ t_991) d_m_next_24 ?_
          by_cases hg27 : inbd (gI S_8 0 4) 480 = true
          rotate_left; · rw [if_neg hg27] at h; cases h
          rw [if_pos hg27] at h
          refine m_ald_1 (k := 1) hx hb hC hX (by rfl) hg27 d_m_next_27 ?_
          refine lv_bipush (v := 32) hx hb d_m_next_28 (by decide) ?_
          refine lv_icmp_ne hx hb d_m_next_30 (tgt := 46) (by decide) (fun hc => ?_) (fun hc => ?_)
          · rw [if_neg hc] at h
            exact J46  H locs ls  hX hS (lv_sub hl [0] rfl) h
          · rw [if_pos hc] at h
            refine lv_aload_n hx hb d_m_next_33 rfl (lv_at hl 0 rfl) ?_
            refine lv_dup hx hb d_m_next_34 rfl ?_
            refine m_get_0_4 hx hb hts hown hC hX (by rfl) (hts _ t_991) d_m_next_35 ?_
            refine lv_iconst (v := 1) hx hb d_m_next_38 (by decide) ?_
            refine lv_iadd hx hb d_m_next_39 ?_
            refine m_put_0_4 (v := ((gI S_8 0 4) + 1)) hx hb hts hown hC hX hS (by rfl) (hts _ t_991) d_m_next_40 (fun H locs hX hS => ?_)
            obtain ⟨S40, e40, h⟩ := bd_some h
            rw [← e40] at hX
            refine lv_goto hx hb d_m_next_43 (tgt := 8) (by decide) ?_
            exact ih8 S40 H locs ls  hX hS (lv_sub hl [0] rfl) h
    exact L8 600 S H locs ls  hX hS (lv_sub hl [0] rfl) h
  · rw [if_neg hc] at h
    obtain rfl := Option.some.inj h
    exact rt_v hQ hx hb hr hX hS hlk d_m_next_7
abbrev y_m_is : MethodName := ({ cls := "TypeGuardModel", name := "is", desc := "(I)Z" } : Jvm.MethodName)
theorem d_m_is_0 : decode prog_14_method_8_code 0 = .ok (.aload_n 0, 1) := by decide +kernel
theorem d_m_is_1 : decode prog_14_method_8_code 1 = .ok (.getfield 109, 3) := by decide +kernel
theorem d_m_is_4 : decode prog_14_method_8_code 4 = .ok (.ifCond .ne 23, 3) := by decide +kernel
theorem d_m_is_7 : decode prog_14_method_8_code 7 = .ok (.aload_n 0, 1) := by decide +kernel
theorem d_m_is_8 : decode prog_14_method_8_code 8 = .ok (.getfield 128, 3) := by decide +kernel
theorem d_m_is_11 : decode prog_14_method_8_code 11 = .ok (.iconst 2, 1) := by decide +kernel
theorem d_m_is_12 : decode prog_14_method_8_code 12 = .ok (.if_icmp .ne 15, 3) := by decide +kernel
theorem d_m_is_15 : decode prog_14_method_8_code 15 = .ok (.aload_n 0, 1) := by decide +kernel
theorem d_m_is_16 : decode prog_14_method_8_code 16 = .ok (.getfield 131, 3) := by decide +kernel
theorem d_m_is_19 : decode prog_14_method_8_code 19 = .ok (.iload_n 1, 1) := by decide +kernel
theorem d_m_is_20 : decode prog_14_method_8_code 20 = .ok (.if_icmp .ne 7, 3) := by decide +kernel
theorem d_m_is_23 : decode prog_14_method_8_code 23 = .ok (.iconst 1, 1) := by decide +kernel
theorem d_m_is_24 : decode prog_14_method_8_code 24 = .ok (.goto 4, 3) := by decide +kernel
theorem d_m_is_27 : decode prog_14_method_8_code 27 = .ok (.iconst 0, 1) := by decide +kernel
theorem d_m_is_28 : decode prog_14_method_8_code 28 = .ok (.ireturn, 1) := by decide +kernel
def m_is (x1 : Int32) (S : MS) : Option Bool := (if (gI S 0 7) = 0 then (if (gI S 0 5) = 2 then (if (gI S 0 6) = x1 then some true else some false) else some false) else some false)
set_option maxHeartbeats 4000000 in
set_option maxRecDepth 100000 in
theorem M_m_is {l : Launch} {D : va_G} {cA : Nat → ClassId} {b : Nat} {ad : Nat → Nat} {x1 : Int32} {S : MS} {T : CS} {o : Nat → Int64} {rr : Bool}  (h : m_is x1 S = some rr) : Met l y_m_is (Cond.code y_m_is prog_14_method_8_code 2 (Option.some Jvm.ClassFile.FieldType.boolean) :: TW) { frames := 0, cells := 0, slots := 0, locals := 0 } (va_Pc [.ref (b + 262), .int x1] (Rp D cA b ad (T, S, o))) (Qr D cA b ad (T, S, o) (some (.int (bI rr)))) 0 0 (Ab b) := by
  refine Ct_of (by decide) (Nat.le_of_ble_eq_true rfl) ?_
  intro p e R s m args below meth c ls Q H locs hR hQ hx hb hts hown hml hr hlk hC hX hS hl
  have hRf : R.frames = 0 := by rw [hR]
  have hRl : R.locals = 0 := by rw [hR]
  have hown : s.vm.findClass "TypeGuardModel" = some m.cls := hown
  have hl : lv_has ls 2 [(0, .ref (b + 262)), (1, .int x1)] := hl
  rw [m_is] at h
  refine lv_aload_n hx hb d_m_is_0 rfl (lv_at hl 0 rfl) ?_
  refine m_get_0_7 hx hb hts hown hC hX (by rfl) (hts _ t_994) d_m_is_1 ?_
  refine lv_if_ne hx hb d_m_is_4 (tgt := 27) (by decide) (fun hc => ?_) (fun hc => ?_)
  · rw [if_neg hc] at h
    refine lv_iconst (v := 0) hx hb d_m_is_27 (by decide) ?_
    obtain rfl := Option.some.inj h
    exact rt_zf hQ hx hb hr hX hS hlk d_m_is_28
  · rw [if_pos hc] at h
    refine lv_aload_n hx hb d_m_is_7 rfl (lv_at hl 0 rfl) ?_
    refine m_get_0_5 hx hb hts hown hC hX (by rfl) (hts _ t_992) d_m_is_8 ?_
    refine lv_iconst (v := 2) hx hb d_m_is_11 (by decide) ?_
    refine lv_icmp_ne hx hb d_m_is_12 (tgt := 27) (by decide) (fun hc => ?_) (fun hc => ?_)
    · rw [if_neg hc] at h
      refine lv_iconst (v := 0) hx hb d_m_is_27 (by decide) ?_
      obtain rfl := Option.some.inj h
      exact rt_zf hQ hx hb hr hX hS hlk d_m_is_28
    · rw [if_pos hc] at h
      refine lv_aload_n hx hb d_m_is_15 rfl (lv_at hl 0 rfl) ?_
      refine m_get_0_6 hx hb hts hown hC hX (by rfl) (hts _ t_993) d_m_is_16 ?_
      refine lv_iload_n hx hb d_m_is_19 rfl (lv_at hl 1 rfl) ?_
      refine lv_icmp_ne hx hb d_m_is_20 (tgt := 27) (by decide) (fun hc => ?_) (fun hc => ?_)
      · rw [if_neg hc] at h
        refine lv_iconst (v := 0) hx hb d_m_is_27 (by decide) ?_
        obtain rfl := Option.some.inj h
        exact rt_zf hQ hx hb hr hX hS hlk d_m_is_28
      · rw [if_pos hc] at h
        refine lv_iconst (v := 1) hx hb d_m_is_23 (by decide) ?_
        refine lv_goto hx hb d_m_is_24 (tgt := 28) (by decide) ?_
        obtain rfl := Option.some.inj h
        exact rt_zt hQ hx hb hr hX hS hlk d_m_is_28
abbrev y_m_passes : MethodName := ({ cls := "TypeGuardModel", name := "passes", desc := "(I)Z" } : Jvm.MethodName)
theorem d_m_passes_0 : decode prog_14_method_9_code 0 = .ok (.aload_n 0, 1) := by decide +kernel
theorem d_m_passes_1 : decode prog_14_method_9_code 1 = .ok (.iload_n 1, 1) := by decide +kernel
theorem d_m_passes_2 : decode prog_14_method_9_code 2 = .ok (.invokevirtual 145, 3) := by decide +kernel
theorem d_m_passes_5 : decode prog_14_method_9_code 5 = .ok (.istore_n 2, 1) := by decide +kernel
theorem d_m_passes_6 : decode prog_14_method_9_code 6 = .ok (.iload_n 2, 1) := by decide +kernel
theorem d_m_passes_7 : decode prog_14_method_9_code 7 = .ok (.ifCond .eq 7, 3) := by decide +kernel
theorem d_m_passes_10 : decode prog_14_method_9_code 10 = .ok (.aload_n 0, 1) := by decide +kernel
theorem d_m_passes_11 : decode prog_14_method_9_code 11 = .ok (.invokevirtual 148, 3) := by decide +kernel
theorem d_m_passes_14 : decode prog_14_method_9_code 14 = .ok (.iload_n 2, 1) := by decide +kernel
theorem d_m_passes_15 : decode prog_14_method_9_code 15 = .ok (.ireturn, 1) := by decide +kernel
def m_passes (x1 : Int32) (S : MS) : Option (MS × Bool) := ((m_is x1 S).bind fun q2 => (if q2 = true then ((m_next S).bind fun q11 => some (q11, q2)) else some (S, q2)))
set_option maxHeartbeats 4000000 in
set_option maxRecDepth 100000 in
theorem M_m_passes {l : Launch} {D : va_G} {cA : Nat → ClassId} {b : Nat} {ad : Nat → Nat} {x1 : Int32} {S : MS} {T : CS} {o : Nat → Int64} {rr : (MS × Bool)}  (h : m_passes x1 S = some rr) : Met l y_m_passes (Cond.code y_m_passes prog_14_method_9_code 3 (Option.some Jvm.ClassFile.FieldType.boolean) :: TW) { frames := 3, cells := 0, slots := 0, locals := 62 } (va_Pc [.ref (b + 262), .int x1] (Rp D cA b ad (T, S, o))) (Qr D cA b ad (T, rr.1, o) (some (.int (bI rr.2)))) 0 0 (Ab b) := by
  refine Ct_of (by decide) (Nat.le_of_ble_eq_true rfl) ?_
  intro p e R s m args below meth c ls Q H locs hR hQ hx hb hts hown hml hr hlk hC hX hS hl
  have hRf : R.frames = 3 := by rw [hR]
  have hRl : R.locals = 62 := by rw [hR]
  have hown : s.vm.findClass "TypeGuardModel" = some m.cls := hown
  have hl : lv_has ls 3 [(0, .ref (b + 262)), (1, .int x1)] := hl
  rw [m_passes] at h
  refine lv_aload_n hx hb d_m_passes_0 rfl (lv_at hl 0 rfl) ?_
  refine lv_iload_n hx hb d_m_passes_1 rfl (lv_at hl 1 rfl) ?_
  obtain ⟨q2, hc2, h⟩ := Option.bind_eq_some_iff.mp h
  refine ck_V (As := [.int x1]) (rest := []) (st1 := [.int (bI q2)]) (M_m_is  hc2) t_1192 t_1194 p_45 t_1195 t_13 hx hb hts hown hC hX hS (hrc_m0 hC hX (by rfl)) hml hl.1 ⟨by rw [hRf]; decide, by rw [hRl]; decide⟩ ⟨rfl, rfl⟩ (n := 1) (by decide +kernel) rfl rfl rfl (lv_room (Nat.le_of_ble_eq_true rfl)) d_m_passes_2 (fun H locs hX hS => ?_)
  refine lv_istore_n (lv' := [(2, .int (bI q2)), (0, .ref (b + 262)), (1, .int x1)]) hx hb d_m_passes_5 rfl hl (by decide) rfl (fun ls hl => ?_)
  refine lv_iload_n hx hb d_m_passes_6 rfl (lv_at hl 0 rfl) ?_
  refine lz_ifeq hx hb d_m_passes_7 (tgt := 14) (by decide) (fun hc => ?_) (fun hc => ?_)
  · rw [if_neg hc] at h
    refine lv_iload_n hx hb d_m_passes_14 rfl (lv_at hl 0 rfl) ?_
    obtain rfl := Option.some.inj h
    exact rt_z hQ hx hb hr hX hS hlk d_m_passes_15
  · rw [if_pos hc] at h
    refine lv_aload_n hx hb d_m_passes_10 rfl (lv_at hl 1 rfl) ?_
    obtain ⟨q11, hc11, h⟩ := Option.bind_eq_some_iff.mp h
    refine ck_V (As := []) (rest := []) (st1 := []) (M_m_next  hc11) t_1149 t_1151 p_39 t_1152 t_13 hx hb hts hown hC hX hS (hrc_m0 hC hX (by rfl)) hml hl.1 ⟨by rw [hRf]; decide, by rw [hRl]; decide⟩ ⟨rfl, rfl⟩ (n := 0) (by decide +kernel) rfl rfl rfl (lv_room (Nat.le_of_ble_eq_true rfl)) d_m_passes_11 (fun H locs hX hS => ?_)
    refine lv_iload_n hx hb d_m_passes_14 rfl (lv_at hl 0 rfl) ?_
    obtain rfl := Option.some.inj h
    exact rt_z hQ hx hb hr hX hS hlk d_m_passes_15
abbrev y_m_must : MethodName := ({ cls := "TypeGuardModel", name := "must", desc := "(I)V" } : Jvm.MethodName)
theorem d_m_must_0 : decode prog_14_method_10_code 0 = .ok (.aload_n 0, 1) := by decide +kernel
theorem d_m_must_1 : decode prog_14_method_10_code 1 = .ok (.iload_n 1, 1) := by decide +kernel
theorem d_m_must_2 : decode prog_14_method_10_code 2 = .ok (.invokevirtual 151, 3) := by decide +kernel
theorem d_m_must_5 : decode prog_14_method_10_code 5 = .ok (.ifCond .ne 8, 3) := by decide +kernel
theorem d_m_must_8 : decode prog_14_method_10_code 8 = .ok (.aload_n 0, 1) := by decide +kernel
theorem d_m_must_9 : decode prog_14_method_10_code 9 = .ok (.iconst 1, 1) := by decide +kernel
theorem d_m_must_10 : decode prog_14_method_10_code 10 = .ok (.invokevirtual 141, 3) := by decide +kernel
theorem d_m_must_13 : decode prog_14_method_10_code 13 = .ok (.return_, 1) := by decide +kernel
def m_must (x1 : Int32) (S : MS) : Option MS := ((m_passes x1 S).bind fun q2 => (if q2.2 = true then some q2.1 else ((m_fail 1 q2.1).bind fun q10 => some q10)))
set_option maxHeartbeats 4000000 in
set_option maxRecDepth 100000 in
theorem M_m_must {l : Launch} {D : va_G} {cA : Nat → ClassId} {b : Nat} {ad : Nat → Nat} {x1 : Int32} {S : MS} {T : CS} {o : Nat → Int64} {rr : MS}  (h : m_must x1 S = some rr) : Met l y_m_must (Cond.code y_m_must prog_14_method_10_code 2 (Option.none : Option Jvm.ClassFile.FieldType) :: TW) { frames := 4, cells := 0, slots := 0, locals := 84 } (va_Pc [.ref (b + 262), .int x1] (Rp D cA b ad (T, S, o))) (Qr D cA b ad (T, rr, o) none) 0 0 (Ab b) := by
  refine Ct_of (by decide) (Nat.le_of_ble_eq_true rfl) ?_
  intro p e R s m args below meth c ls Q H locs hR hQ hx hb hts hown hml hr hlk hC hX hS hl
  have hRf : R.frames = 4 := by rw [hR]
  have hRl : R.locals = 84 := by rw [hR]
  have hown : s.vm.findClass "TypeGuardModel" = some m.cls := hown
  have hl : lv_has ls 2 [(0, .ref (b + 262)), (1, .int x1)] := hl
  rw [m_must] at h
  refine lv_aload_n hx hb d_m_must_0 rfl (lv_at hl 0 rfl) ?_
  refine lv_iload_n hx hb d_m_must_1 rfl (lv_at hl 1 rfl) ?_
  obtain ⟨q2, hc2, h⟩ := Option.bind_eq_some_iff.mp h
  refine ck_V (As := [.int x1]) (rest := []) (st1 := [.int (bI q2.2)]) (M_m_passes  hc2) t_1188 t_1190 p_44 t_1191 t_13 hx hb hts hown hC hX hS (hrc_m0 hC hX (by rfl)) hml hl.1 ⟨by rw [hRf]; decide, by rw [hRl]; decide⟩ ⟨rfl, rfl⟩ (n := 1) (by decide +kernel) rfl rfl rfl (lv_room (Nat.le_of_ble_eq_true rfl)) d_m_must_2 (fun H locs hX hS => ?_)
  refine lz_ifne hx hb d_m_must_5 (tgt := 13) (by decide) (fun hc => ?_) (fun hc => ?_)
  · rw [if_pos hc] at h
    obtain rfl := Option.some.inj h
    exact rt_v hQ hx hb hr hX hS hlk d_m_must_13
  · rw [if_neg hc] at h
    refine lv_aload_n hx hb d_m_must_8 rfl (lv_at hl 0 rfl) ?_
    refine lv_iconst (v := 1) hx hb d_m_must_9 (by decide) ?_
    obtain ⟨q10, hc10, h⟩ := Option.bind_eq_some_iff.mp h
    refine ck_V (As := [.int 1]) (rest := []) (st1 := []) (M_m_fail  hc10) t_1159 t_1161 p_40 t_1162 t_13 hx hb hts hown hC hX hS (hrc_m0 hC hX (by rfl)) hml hl.1 ⟨by rw [hRf]; decide, by rw [hRl]; decide⟩ ⟨rfl, rfl⟩ (n := 1) (by decide +kernel) rfl rfl rfl (lv_room (Nat.le_of_ble_eq_true rfl)) d_m_must_10 (fun H locs hX hS => ?_)
    obtain rfl := Option.some.inj h
    exact rt_v hQ hx hb hr hX hS hlk d_m_must_13
abbrev y_m_isName : MethodName := ({ cls := "TypeGuardModel", name := "isName", desc := "()Z" } : Jvm.MethodName)
theorem d_m_isName_0 : decode prog_14_method_11_code 0 = .ok (.aload_n 0, 1) := by decide +kernel
theorem d_m_isName_1 : decode prog_14_method_11_code 1 = .ok (.getfield 128, 3) := by decide +kernel
theorem d_m_isName_4 : decode prog_14_method_11_code 4 = .ok (.iconst 1, 1) := by decide +kernel
theorem d_m_isName_5 : decode prog_14_method_11_code 5 = .ok (.if_icmp .eq 8, 3) := by decide +kernel
theorem d_m_isName_8 : decode prog_14_method_11_code 8 = .ok (.aload_n 0, 1) := by decide +kernel
theorem d_m_isName_9 : decode prog_14_method_11_code 9 = .ok (.iconst 1, 1) := by decide +kernel
theorem d_m_isName_10 : decode prog_14_method_11_code 10 = .ok (.invokevirtual 141, 3) := by decide +kernel
theorem d_m_isName_13 : decode prog_14_method_11_code 13 = .ok (.aload_n 0, 1) := by decide +kernel
theorem d_m_isName_14 : decode prog_14_method_11_code 14 = .ok (.getfield 109, 3) := by decide +kernel
theorem d_m_isName_17 : decode prog_14_method_11_code 17 = .ok (.ifCond .ne 7, 3) := by decide +kernel
theorem d_m_isName_20 : decode prog_14_method_11_code 20 = .ok (.iconst 1, 1) := by decide +kernel
theorem d_m_isName_21 : decode prog_14_method_11_code 21 = .ok (.goto 4, 3) := by decide +kernel
theorem d_m_isName_24 : decode prog_14_method_11_code 24 = .ok (.iconst 0, 1) := by decide +kernel
theorem d_m_isName_25 : decode prog_14_method_11_code 25 = .ok (.ireturn, 1) := by decide +kernel
def m_isName_J13 (S_13 : MS) : Option (MS × Bool) := (if (gI S_13 0 7) = 0 then some (S_13, true) else some (S_13, false))
def m_isName (S : MS) : Option (MS × Bool) := (if (gI S 0 5) = 1 then m_isName_J13 S else ((m_fail 1 S).bind fun q10 => m_isName_J13 q10))
set_option maxHeartbeats 4000000 in
set_option maxRecDepth 100000 in
theorem M_m_isName {l : Launch} {D : va_G} {cA : Nat → ClassId} {b : Nat} {ad : Nat → Nat}  {S : MS} {T : CS} {o : Nat → Int64} {rr : (MS × Bool)}  (h : m_isName  S = some rr) : Met l y_m_isName (Cond.code y_m_isName prog_14_method_11_code 1 (Option.some Jvm.ClassFile.FieldType.boolean) :: TW) { frames := 1, cells := 0, slots := 0, locals := 21 } (va_Pc [.ref (b + 262)] (Rp D cA b ad (T, S, o))) (Qr D cA b ad (T, rr.1, o) (some (.int (bI rr.2)))) 0 0 (Ab b) := by
  refine Ct_of (by decide) (Nat.le_of_ble_eq_true rfl) ?_
  intro p e R s m args below meth c ls Q H locs hR hQ hx hb hts hown hml hr hlk hC hX hS hl
  have hRf : R.frames = 1 := by rw [hR]
  have hRl : R.locals = 21 := by rw [hR]
  have hown : s.vm.findClass "TypeGuardModel" = some m.cls := hown
  have hl : lv_has ls 1 [(0, .ref (b + 262))] := hl
  rw [m_isName] at h
  refine lv_aload_n hx hb d_m_isName_0 rfl (lv_at hl 0 rfl) ?_
  refine m_get_0_5 hx hb hts hown hC hX (by rfl) (hts _ t_992) d_m_isName_1 ?_
  refine lv_iconst (v := 1) hx hb d_m_isName_4 (by decide) ?_
  have J13 : ∀ (S_13 : MS) (H : Heap) (locs : List Loc) (ls : Array Slot), hp D cA b ad (T, S_13, o) H → va_S (Ab b) s.heap H locs → lv_has ls 1 [(0, .ref (b + 262))] → m_isName_J13 S_13 = some rr → W p l e R s m args below meth c H locs 0 0 Q (F0 m 13 ls []) := by
    intro S_13 H locs ls  hX hS hl h
    rw [m_isName_J13] at h
    refine lv_aload_n hx hb d_m_isName_13 rfl (lv_at hl 0 rfl) ?_
    refine m_get_0_7 hx hb hts hown hC hX (by rfl) (hts _ t_994) d_m_isName_14 ?_
    refine lv_if_ne hx hb d_m_isName_17 (tgt := 24) (by decide) (fun hc => ?_) (fun hc => ?_)
    · rw [if_neg hc] at h
      refine lv_iconst (v := 0) hx hb d_m_isName_24 (by decide) ?_
      obtain rfl := Option.some.inj h
      exact rt_zf hQ hx hb hr hX hS hlk d_m_isName_25
    · rw [if_pos hc] at h
      refine lv_iconst (v := 1) hx hb d_m_isName_20 (by decide) ?_
      refine lv_goto hx hb d_m_isName_21 (tgt := 25) (by decide) ?_
      obtain rfl := Option.some.inj h
      exact rt_zt hQ hx hb hr hX hS hlk d_m_isName_25
  refine lv_icmp_eq hx hb d_m_isName_5 (tgt := 13) (by decide) (fun hc => ?_) (fun hc => ?_)
  · rw [if_pos hc] at h
    exact J13 S H locs ls  hX hS (lv_sub hl [0] rfl) h
  · rw [if_neg hc] at h
    refine lv_aload_n hx hb d_m_isName_8 rfl (lv_at hl 0 rfl) ?_
    refine lv_iconst (v := 1) hx hb d_m_isName_9 (by decide) ?_
    obtain ⟨q10, hc10, h⟩ := Option.bind_eq_some_iff.mp h
    refine ck_V (As := [.int 1]) (rest := []) (st1 := []) (M_m_fail  hc10) t_1159 t_1161 p_40 t_1162 t_13 hx hb hts hown hC hX hS (hrc_m0 hC hX (by rfl)) hml hl.1 ⟨by rw [hRf]; decide, by rw [hRl]; decide⟩ ⟨rfl, rfl⟩ (n := 1) (by decide +kernel) rfl rfl rfl (lv_room (Nat.le_of_ble_eq_true rfl)) d_m_isName_10 (fun H locs hX hS => ?_)
    exact J13 q10 H locs ls  hX hS (lv_sub hl [0] rfl) h
abbrev y_m_find : MethodName := ({ cls := "TypeGuardModel", name := "find", desc := "([JIIJ)I" } : Jvm.MethodName)
theorem d_m_find_0 : decode prog_14_method_12_code 0 = .ok (.iconst 0, 1) := by decide +kernel
theorem d_m_find_1 : decode prog_14_method_12_code 1 = .ok (.istore 5, 2) := by decide +kernel
theorem d_m_find_3 : decode prog_14_method_12_code 3 = .ok (.iload 5, 2) := by decide +kernel
theorem d_m_find_5 : decode prog_14_method_12_code 5 = .ok (.iload_n 2, 1) := by decide +kernel
theorem d_m_find_6 : decode prog_14_method_12_code 6 = .ok (.if_icmp .ge 23, 3) := by decide +kernel
theorem d_m_find_9 : decode prog_14_method_12_code 9 = .ok (.aload_n 0, 1) := by decide +kernel
theorem d_m_find_10 : decode prog_14_method_12_code 10 = .ok (.iload_n 1, 1) := by decide +kernel
theorem d_m_find_11 : decode prog_14_method_12_code 11 = .ok (.iload 5, 2) := by decide +kernel
theorem d_m_find_13 : decode prog_14_method_12_code 13 = .ok (.iadd, 1) := by decide +kernel
theorem d_m_find_14 : decode prog_14_method_12_code 14 = .ok (.laload, 1) := by decide +kernel
theorem d_m_find_15 : decode prog_14_method_12_code 15 = .ok (.lload_n 3, 1) := by decide +kernel
theorem d_m_find_16 : decode prog_14_method_12_code 16 = .ok (.lcmp, 1) := by decide +kernel
theorem d_m_find_17 : decode prog_14_method_12_code 17 = .ok (.ifCond .ne 6, 3) := by decide +kernel
theorem d_m_find_20 : decode prog_14_method_12_code 20 = .ok (.iload 5, 2) := by decide +kernel
theorem d_m_find_22 : decode prog_14_method_12_code 22 = .ok (.ireturn, 1) := by decide +kernel
theorem d_m_find_23 : decode prog_14_method_12_code 23 = .ok (.iinc 5 1, 3) := by decide +kernel
theorem d_m_find_26 : decode prog_14_method_12_code 26 = .ok (.goto (-23), 3) := by decide +kernel
theorem d_m_find_29 : decode prog_14_method_12_code 29 = .ok (.iconst (-1), 1) := by decide +kernel
theorem d_m_find_30 : decode prog_14_method_12_code 30 = .ok (.ireturn, 1) := by decide +kernel
def m_find_L3 (v0_3 : Nat) (v1_3 : Int32) (v2_3 : Int32) (v3_3 : Int64) (S_3 : MS) : Nat → Int32 → Option Int32
  | 0, _ => none
  | n + 1, v5_3 => (if v2_3 ≤ v5_3 then some (-1) else (if inbd (v1_3 + v5_3) (lnM v0_3) = true then (if (gL S_3 v0_3 (txN (v1_3 + v5_3))) = v3_3 then some v5_3 else (bd ((v5_3 + 1)) fun a23 => (m_find_L3 v0_3 v1_3 v2_3 v3_3 S_3 n) a23)) else none))
def m_find (x0 : Nat) (x1 : Int32) (x2 : Int32) (x3 : Int64) (S : MS) : Option Int32 := m_find_L3 x0 x1 x2 x3 S 600 0
set_option maxHeartbeats 4000000 in
set_option maxRecDepth 100000 in
theorem M_m_find {l : Launch} {D : va_G} {cA : Nat → ClassId} {b : Nat} {ad : Nat → Nat} {x0 : Nat} {x1 : Int32} {x2 : Int32} {x3 : Int64} {S : MS} {T : CS} {o : Nat → Int64} {rr : Int32} (hk0 : kdM x0 = 2) (h : m_find x0 x1 x2 x3 S = some rr) : Met l y_m_find (Cond.code y_m_find prog_14_method_12_code 6 (Option.some Jvm.ClassFile.FieldType.int) :: TW) { frames := 0, cells := 0, slots := 0, locals := 0 } (va_Pc [.ref (b + (262 + x0)), .int x1, .int x2, .long x3] (Rp D cA b ad (T, S, o))) (Qr D cA b ad (T, S, o) (some (.int rr))) 0 0 (Ab b) := by
  refine Ct_of (by decide) (Nat.le_of_ble_eq_true rfl) ?_
  intro p e R s m args below meth c ls Q H locs hR hQ hx hb hts hown hml hr hlk hC hX hS hl
  have hRf : R.frames = 0 := by rw [hR]
  have hRl : R.locals = 0 := by rw [hR]
  have hown : s.vm.findClass "TypeGuardModel" = some m.cls := hown
  have hl : lv_has ls 6 [(0, .ref (b + (262 + x0))), (1, .int x1), (2, .int x2), (3, .long x3)] := hl
  rw [m_find] at h
  refine lv_iconst (v := 0) hx hb d_m_find_0 (by decide) ?_
  refine lv_istore (lv' := [(5, .int 0), (0, .ref (b + (262 + x0))), (1, .int x1), (2, .int x2), (3, .long x3)]) hx hb d_m_find_1 hl (by decide) rfl (fun ls hl => ?_)
  have L3 : ∀ (n3 : Nat) (v5_3 : Int32) (H : Heap) (locs : List Loc) (ls : Array Slot), hp D cA b ad (T, S, o) H → va_S (Ab b) s.heap H locs → lv_has ls 6 [(0, .ref (b + (262 + x0))), (1, .int x1), (2, .int x2), (3, .long x3), (5, .int v5_3)] → m_find_L3 x0 x1 x2 x3 S n3 v5_3 = some rr → W p l e R s m args below meth c H locs 0 0 Q (F0 m 3 ls []) := by
    intro n3; induction n3 with
    | zero => intro v5_3 H locs ls  hX hS hl h; rw [m_find_L3] at h; cases h
    | succ n3 ih3 =>
      intro v5_3 H locs ls  hX hS hl h
      rw [m_find_L3] at h
      refine lv_iload hx hb d_m_find_3 (lv_at hl 4 rfl) ?_
      refine lv_iload_n hx hb d_m_find_5 rfl (lv_at hl 2 rfl) ?_
      refine lv_icmp_ge hx hb d_m_find_6 (tgt := 29) (by decide) (fun hc => ?_) (fun hc => ?_)
      · rw [if_pos hc] at h
        refine lv_iconst (v := (-1)) hx hb d_m_find_29 (by decide) ?_
        obtain rfl := Option.some.inj h
        exact rt_i hQ hx hb hr hX hS hlk d_m_find_30
      · rw [if_neg hc] at h
        refine lv_aload_n hx hb d_m_find_9 rfl (lv_at hl 0 rfl) ?_
        refine lv_iload_n hx hb d_m_find_10 rfl (lv_at hl 1 rfl) ?_
        refine lv_iload hx hb d_m_find_11 (lv_at hl 4 rfl) ?_
        refine lv_iadd hx hb d_m_find_13 ?_
        by_cases hg14 : inbd (x1 + v5_3) (lnM x0) = true
        rotate_left; · rw [if_neg hg14] at h; cases h
        rw [if_pos hg14] at h
        refine m_ald_2 (k := x0) hx hb hC hX hk0 hg14 d_m_find_14 ?_
        refine lv_lload_n hx hb d_m_find_15 rfl (lv_at hl 3 rfl) ?_
        refine lx_ifne hx hb d_m_find_16 d_m_find_17 (tgt := 23) (by decide) (fun hc => ?_) (fun hc => ?_)
        · rw [if_neg hc] at h
          obtain ⟨a23, e23, h⟩ := bd_some h
          refine lv_iinc (v := a23) (lv' := [(5, .int a23), (0, .ref (b + (262 + x0))), (1, .int x1), (2, .int x2), (3, .long x3)]) hx hb d_m_find_23 hl (k := 4) rfl e23.symm (by decide) rfl (fun ls hl => ?_)
          refine lv_goto hx hb d_m_find_26 (tgt := 3) (by decide) ?_
          exact ih3 a23 H locs ls  hX hS (lv_sub hl [1, 2, 3, 4, 0] rfl) h
        · rw [if_pos hc] at h
          refine lv_iload hx hb d_m_find_20 (lv_at hl 4 rfl) ?_
          obtain rfl := Option.some.inj h
          exact rt_i hQ hx hb hr hX hS hlk d_m_find_22
  exact L3 600 0 H locs ls  hX hS (lv_sub hl [1, 2, 3, 4, 0] rfl) h
abbrev y_m_own : MethodName := ({ cls := "TypeGuardModel", name := "own", desc := "()I" } : Jvm.MethodName)
theorem d_m_own_0 : decode prog_14_method_13_code 0 = .ok (.iconst 1, 1) := by decide +kernel
theorem d_m_own_1 : decode prog_14_method_13_code 1 = .ok (.aload_n 0, 1) := by decide +kernel
theorem d_m_own_2 : decode prog_14_method_13_code 2 = .ok (.getfield 154, 3) := by decide +kernel
theorem d_m_own_5 : decode prog_14_method_13_code 5 = .ok (.isub, 1) := by decide +kernel
theorem d_m_own_6 : decode prog_14_method_13_code 6 = .ok (.ireturn, 1) := by decide +kernel
def m_own (S : MS) : Option Int32 := some (1 - (gI S 0 12))
set_option maxHeartbeats 4000000 in
set_option maxRecDepth 100000 in
theorem M_m_own {l : Launch} {D : va_G} {cA : Nat → ClassId} {b : Nat} {ad : Nat → Nat}  {S : MS} {T : CS} {o : Nat → Int64} {rr : Int32}  (h : m_own  S = some rr) : Met l y_m_own (Cond.code y_m_own prog_14_method_13_code 1 (Option.some Jvm.ClassFile.FieldType.int) :: TW) { frames := 0, cells := 0, slots := 0, locals := 0 } (va_Pc [.ref (b + 262)] (Rp D cA b ad (T, S, o))) (Qr D cA b ad (T, S, o) (some (.int rr))) 0 0 (Ab b) := by
  refine Ct_of (by decide) (Nat.le_of_ble_eq_true rfl) ?_
  intro p e R s m args below meth c ls Q H locs hR hQ hx hb hts hown hml hr hlk hC hX hS hl
  have hRf : R.frames = 0 := by rw [hR]
  have hRl : R.locals = 0 := by rw [hR]
  have hown : s.vm.findClass "TypeGuardModel" = some m.cls := hown
  have hl : lv_has ls 1 [(0, .ref (b + 262))] := hl
  rw [m_own] at h
  refine lv_iconst (v := 1) hx hb d_m_own_0 (by decide) ?_
  refine lv_aload_n hx hb d_m_own_1 rfl (lv_at hl 0 rfl) ?_
  refine m_get_0_12 hx hb hts hown hC hX (by rfl) (hts _ t_999) d_m_own_2 ?_
  refine lv_isub hx hb d_m_own_5 ?_
  obtain rfl := Option.some.inj h
  exact rt_i hQ hx hb hr hX hS hlk d_m_own_6
abbrev y_m_typeOf : MethodName := ({ cls := "TypeGuardModel", name := "typeOf", desc := "(IJ)I" } : Jvm.MethodName)
theorem d_m_typeOf_0 : decode prog_14_method_14_code 0 = .ok (.aload_n 0, 1) := by decide +kernel
theorem d_m_typeOf_1 : decode prog_14_method_14_code 1 = .ok (.getfield 20, 3) := by decide +kernel
theorem d_m_typeOf_4 : decode prog_14_method_14_code 4 = .ok (.bipush 12, 2) := by decide +kernel
theorem d_m_typeOf_6 : decode prog_14_method_14_code 6 = .ok (.iload_n 1, 1) := by decide +kernel
theorem d_m_typeOf_7 : decode prog_14_method_14_code 7 = .ok (.imul, 1) := by decide +kernel
theorem d_m_typeOf_8 : decode prog_14_method_14_code 8 = .ok (.aload_n 0, 1) := by decide +kernel
theorem d_m_typeOf_9 : decode prog_14_method_14_code 9 = .ok (.getfield 17, 3) := by decide +kernel
theorem d_m_typeOf_12 : decode prog_14_method_14_code 12 = .ok (.iconst 5, 1) := by decide +kernel
theorem d_m_typeOf_13 : decode prog_14_method_14_code 13 = .ok (.iload_n 1, 1) := by decide +kernel
theorem d_m_typeOf_14 : decode prog_14_method_14_code 14 = .ok (.imul, 1) := by decide +kernel
theorem d_m_typeOf_15 : decode prog_14_method_14_code 15 = .ok (.iaload, 1) := by decide +kernel
theorem d_m_typeOf_16 : decode prog_14_method_14_code 16 = .ok (.lload_n 2, 1) := by decide +kernel
theorem d_m_typeOf_17 : decode prog_14_method_14_code 17 = .ok (.invokestatic 157, 3) := by decide +kernel
theorem d_m_typeOf_20 : decode prog_14_method_14_code 20 = .ok (.ireturn, 1) := by decide +kernel
def m_typeOf (x1 : Int32) (x2 : Int64) (S : MS) : Option Int32 := (if inbd (5 * x1) 10 = true then ((m_find 3 (12 * x1) (gI S 2 (txN (5 * x1))) x2 S).bind fun q17 => some q17) else none)
set_option maxHeartbeats 4000000 in
set_option maxRecDepth 100000 in
theorem M_m_typeOf {l : Launch} {D : va_G} {cA : Nat → ClassId} {b : Nat} {ad : Nat → Nat} {x1 : Int32} {x2 : Int64} {S : MS} {T : CS} {o : Nat → Int64} {rr : Int32}  (h : m_typeOf x1 x2 S = some rr) : Met l y_m_typeOf (Cond.code y_m_typeOf prog_14_method_14_code 4 (Option.some Jvm.ClassFile.FieldType.int) :: TW) { frames := 1, cells := 0, slots := 0, locals := 25 } (va_Pc [.ref (b + 262), .int x1, .long x2] (Rp D cA b ad (T, S, o))) (Qr D cA b ad (T, S, o) (some (.int rr))) 0 0 (Ab b) := by
  refine Ct_of (by decide) (Nat.le_of_ble_eq_true rfl) ?_
  intro p e R s m args below meth c ls Q H locs hR hQ hx hb hts hown hml hr hlk hC hX hS hl
  have hRf : R.frames = 1 := by rw [hR]
  have hRl : R.locals = 25 := by rw [hR]
  have hown : s.vm.findClass "TypeGuardModel" = some m.cls := hown
  have hl : lv_has ls 4 [(0, .ref (b + 262)), (1, .int x1), (2, .long x2)] := hl
  rw [m_typeOf] at h
  refine lv_aload_n hx hb d_m_typeOf_0 rfl (lv_at hl 0 rfl) ?_
  refine m_get_0_14 hx hb hts hown hC hX (by rfl) (hts _ t_1001) d_m_typeOf_1 ?_
  refine lv_bipush (v := 12) hx hb d_m_typeOf_4 (by decide) ?_
  refine lv_iload_n hx hb d_m_typeOf_6 rfl (lv_at hl 1 rfl) ?_
  refine lv_imul hx hb d_m_typeOf_7 ?_
  refine lv_aload_n hx hb d_m_typeOf_8 rfl (lv_at hl 0 rfl) ?_
  refine m_get_0_13 hx hb hts hown hC hX (by rfl) (hts _ t_1000) d_m_typeOf_9 ?_
  refine lv_iconst (v := 5) hx hb d_m_typeOf_12 (by decide) ?_
  refine lv_iload_n hx hb d_m_typeOf_13 rfl (lv_at hl 1 rfl) ?_
  refine lv_imul hx hb d_m_typeOf_14 ?_
  by_cases hg15 : inbd (5 * x1) 10 = true
  rotate_left; · rw [if_neg hg15] at h; cases h
  rw [if_pos hg15] at h
  refine m_ald_1 (k := 2) hx hb hC hX (by rfl) hg15 d_m_typeOf_15 ?_
  refine lv_lload_n hx hb d_m_typeOf_16 rfl (lv_at hl 2 rfl) ?_
  obtain ⟨q17, hc17, h⟩ := Option.bind_eq_some_iff.mp h
  refine ck_S (As := [.ref (b + 265), .int (12 * x1), .int (gI S 2 (txN (5 * x1))), .long x2]) (rest := []) (st1 := [.int q17]) (M_m_find (by rfl) hc17) t_1210 t_1211 t_1212 t_13 hx hb hts hown hC hX hS  hml hl.1 ⟨by rw [hRf]; decide, by rw [hRl]; decide⟩ ⟨rfl, rfl⟩ (n := 4) (by decide +kernel) rfl rfl rfl (lv_room (Nat.le_of_ble_eq_true rfl)) d_m_typeOf_17 (fun H locs hX hS => ?_)
  obtain rfl := Option.some.inj h
  exact rt_i hQ hx hb hr hX hS hlk d_m_typeOf_20
abbrev y_m_classOf : MethodName := ({ cls := "TypeGuardModel", name := "classOf", desc := "(IJ)I" } : Jvm.MethodName)
theorem d_m_classOf_0 : decode prog_14_method_15_code 0 = .ok (.aload_n 0, 1) := by decide +kernel
theorem d_m_classOf_1 : decode prog_14_method_15_code 1 = .ok (.getfield 27, 3) := by decide +kernel
theorem d_m_classOf_4 : decode prog_14_method_15_code 4 = .ok (.iconst 4, 1) := by decide +kernel
theorem d_m_classOf_5 : decode prog_14_method_15_code 5 = .ok (.iload_n 1, 1) := by decide +kernel
theorem d_m_classOf_6 : decode prog_14_method_15_code 6 = .ok (.imul, 1) := by decide +kernel
theorem d_m_classOf_7 : decode prog_14_method_15_code 7 = .ok (.aload_n 0, 1) := by decide +kernel
theorem d_m_classOf_8 : decode prog_14_method_15_code 8 = .ok (.getfield 17, 3) := by decide +kernel
theorem d_m_classOf_11 : decode prog_14_method_15_code 11 = .ok (.iconst 5, 1) := by decide +kernel
theorem d_m_classOf_12 : decode prog_14_method_15_code 12 = .ok (.iload_n 1, 1) := by decide +kernel
theorem d_m_classOf_13 : decode prog_14_method_15_code 13 = .ok (.imul, 1) := by decide +kernel
theorem d_m_classOf_14 : decode prog_14_method_15_code 14 = .ok (.iconst 2, 1) := by decide +kernel
theorem d_m_classOf_15 : decode prog_14_method_15_code 15 = .ok (.iadd, 1) := by decide +kernel
theorem d_m_classOf_16 : decode prog_14_method_15_code 16 = .ok (.iaload, 1) := by decide +kernel
theorem d_m_classOf_17 : decode prog_14_method_15_code 17 = .ok (.lload_n 2, 1) := by decide +kernel
theorem d_m_classOf_18 : decode prog_14_method_15_code 18 = .ok (.invokestatic 157, 3) := by decide +kernel
theorem d_m_classOf_21 : decode prog_14_method_15_code 21 = .ok (.ireturn, 1) := by decide +kernel
def m_classOf (x1 : Int32) (x2 : Int64) (S : MS) : Option Int32 := (if inbd ((5 * x1) + 2) 10 = true then ((m_find 5 (4 * x1) (gI S 2 (txN ((5 * x1) + 2))) x2 S).bind fun q18 => some q18) else none)
set_option maxHeartbeats 4000000 in
set_option maxRecDepth 100000 in
theorem M_m_classOf {l : Launch} {D : va_G} {cA : Nat → ClassId} {b : Nat} {ad : Nat → Nat} {x1 : Int32} {x2 : Int64} {S : MS} {T : CS} {o : Nat → Int64} {rr : Int32}  (h : m_classOf x1 x2 S = some rr) : Met l y_m_classOf (Cond.code y_m_classOf prog_14_method_15_code 4 (Option.some Jvm.ClassFile.FieldType.int) :: TW) { frames := 1, cells := 0, slots := 0, locals := 25 } (va_Pc [.ref (b + 262), .int x1, .long x2] (Rp D cA b ad (T, S, o))) (Qr D cA b ad (T, S, o) (some (.int rr))) 0 0 (Ab b) := by
  refine Ct_of (by decide) (Nat.le_of_ble_eq_true rfl) ?_
  intro p e R s m args below meth c ls Q H locs hR hQ hx hb hts hown hml hr hlk hC hX hS hl
  have hRf : R.frames = 1 := by rw [hR]
  have hRl : R.locals = 25 := by rw [hR]
  have hown : s.vm.findClass "TypeGuardModel" = some m.cls := hown
  have hl : lv_has ls 4 [(0, .ref (b + 262)), (1, .int x1), (2, .long x2)] := hl
  rw [m_classOf] at h
  refine lv_aload_n hx hb d_m_classOf_0 rfl (lv_at hl 0 rfl) ?_
  refine m_get_0_16 hx hb hts hown hC hX (by rfl) (hts _ t_1003) d_m_classOf_1 ?_
  refine lv_iconst (v := 4) hx hb d_m_classOf_4 (by decide) ?_
  refine lv_iload_n hx hb d_m_classOf_5 rfl (lv_at hl 1 rfl) ?_
  refine lv_imul hx hb d_m_classOf_6 ?_
  refine lv_aload_n hx hb d_m_classOf_7 rfl (lv_at hl 0 rfl) ?_
  refine m_get_0_13 hx hb hts hown hC hX (by rfl) (hts _ t_1000) d_m_classOf_8 ?_
  refine lv_iconst (v := 5) hx hb d_m_classOf_11 (by decide) ?_
  refine lv_iload_n hx hb d_m_classOf_12 rfl (lv_at hl 1 rfl) ?_
  refine lv_imul hx hb d_m_classOf_13 ?_
  refine lv_iconst (v := 2) hx hb d_m_classOf_14 (by decide) ?_
  refine lv_iadd hx hb d_m_classOf_15 ?_
  by_cases hg16 : inbd ((5 * x1) + 2) 10 = true
  rotate_left; · rw [if_neg hg16] at h; cases h
  rw [if_pos hg16] at h
  refine m_ald_1 (k := 2) hx hb hC hX (by rfl) hg16 d_m_classOf_16 ?_
  refine lv_lload_n hx hb d_m_classOf_17 rfl (lv_at hl 2 rfl) ?_
  obtain ⟨q18, hc18, h⟩ := Option.bind_eq_some_iff.mp h
  refine ck_S (As := [.ref (b + 267), .int (4 * x1), .int (gI S 2 (txN ((5 * x1) + 2))), .long x2]) (rest := []) (st1 := [.int q18]) (M_m_find (by rfl) hc18) t_1210 t_1211 t_1212 t_13 hx hb hts hown hC hX hS  hml hl.1 ⟨by rw [hRf]; decide, by rw [hRl]; decide⟩ ⟨rfl, rfl⟩ (n := 4) (by decide +kernel) rfl rfl rfl (lv_room (Nat.le_of_ble_eq_true rfl)) d_m_classOf_18 (fun H locs hX hS => ?_)
  obtain rfl := Option.some.inj h
  exact rt_i hQ hx hb hr hX hS hlk d_m_classOf_21
abbrev y_m_isWord : MethodName := ({ cls := "TypeGuardModel", name := "isWord", desc := "(J)Z" } : Jvm.MethodName)
theorem d_m_isWord_0 : decode prog_14_method_16_code 0 = .ok (.lload_n 0, 1) := by decide +kernel
theorem d_m_isWord_1 : decode prog_14_method_16_code 1 = .ok (.ldc2_w 161, 3) := by decide +kernel
theorem d_m_isWord_4 : decode prog_14_method_16_code 4 = .ok (.lcmp, 1) := by decide +kernel
theorem d_m_isWord_5 : decode prog_14_method_16_code 5 = .ok (.ifCond .eq 59, 3) := by decide +kernel
theorem d_m_isWord_8 : decode prog_14_method_16_code 8 = .ok (.lload_n 0, 1) := by decide +kernel
theorem d_m_isWord_9 : decode prog_14_method_16_code 9 = .ok (.ldc2_w 163, 3) := by decide +kernel
theorem d_m_isWord_12 : decode prog_14_method_16_code 12 = .ok (.lcmp, 1) := by decide +kernel
theorem d_m_isWord_13 : decode prog_14_method_16_code 13 = .ok (.ifCond .eq 51, 3) := by decide +kernel
theorem d_m_isWord_16 : decode prog_14_method_16_code 16 = .ok (.lload_n 0, 1) := by decide +kernel
theorem d_m_isWord_17 : decode prog_14_method_16_code 17 = .ok (.ldc2_w 165, 3) := by decide +kernel
theorem d_m_isWord_20 : decode prog_14_method_16_code 20 = .ok (.lcmp, 1) := by decide +kernel
theorem d_m_isWord_21 : decode prog_14_method_16_code 21 = .ok (.ifCond .eq 43, 3) := by decide +kernel
theorem d_m_isWord_24 : decode prog_14_method_16_code 24 = .ok (.lload_n 0, 1) := by decide +kernel
theorem d_m_isWord_25 : decode prog_14_method_16_code 25 = .ok (.ldc2_w 167, 3) := by decide +kernel
theorem d_m_isWord_28 : decode prog_14_method_16_code 28 = .ok (.lcmp, 1) := by decide +kernel
theorem d_m_isWord_29 : decode prog_14_method_16_code 29 = .ok (.ifCond .eq 35, 3) := by decide +kernel
theorem d_m_isWord_32 : decode prog_14_method_16_code 32 = .ok (.lload_n 0, 1) := by decide +kernel
theorem d_m_isWord_33 : decode prog_14_method_16_code 33 = .ok (.ldc2_w 169, 3) := by decide +kernel
theorem d_m_isWord_36 : decode prog_14_method_16_code 36 = .ok (.lcmp, 1) := by decide +kernel
theorem d_m_isWord_37 : decode prog_14_method_16_code 37 = .ok (.ifCond .eq 27, 3) := by decide +kernel
theorem d_m_isWord_40 : decode prog_14_method_16_code 40 = .ok (.lload_n 0, 1) := by decide +kernel
theorem d_m_isWord_41 : decode prog_14_method_16_code 41 = .ok (.ldc2_w 171, 3) := by decide +kernel
theorem d_m_isWord_44 : decode prog_14_method_16_code 44 = .ok (.lcmp, 1) := by decide +kernel
theorem d_m_isWord_45 : decode prog_14_method_16_code 45 = .ok (.ifCond .eq 19, 3) := by decide +kernel
theorem d_m_isWord_48 : decode prog_14_method_16_code 48 = .ok (.lload_n 0, 1) := by decide +kernel
theorem d_m_isWord_49 : decode prog_14_method_16_code 49 = .ok (.ldc2_w 173, 3) := by decide +kernel
theorem d_m_isWord_52 : decode prog_14_method_16_code 52 = .ok (.lcmp, 1) := by decide +kernel
theorem d_m_isWord_53 : decode prog_14_method_16_code 53 = .ok (.ifCond .eq 11, 3) := by decide +kernel
theorem d_m_isWord_56 : decode prog_14_method_16_code 56 = .ok (.lload_n 0, 1) := by decide +kernel
theorem d_m_isWord_57 : decode prog_14_method_16_code 57 = .ok (.ldc2_w 175, 3) := by decide +kernel
theorem d_m_isWord_60 : decode prog_14_method_16_code 60 = .ok (.lcmp, 1) := by decide +kernel
theorem d_m_isWord_61 : decode prog_14_method_16_code 61 = .ok (.ifCond .ne 7, 3) := by decide +kernel
theorem d_m_isWord_64 : decode prog_14_method_16_code 64 = .ok (.iconst 1, 1) := by decide +kernel
theorem d_m_isWord_65 : decode prog_14_method_16_code 65 = .ok (.goto 4, 3) := by decide +kernel
theorem d_m_isWord_68 : decode prog_14_method_16_code 68 = .ok (.iconst 0, 1) := by decide +kernel
theorem d_m_isWord_69 : decode prog_14_method_16_code 69 = .ok (.istore_n 2, 1) := by decide +kernel
theorem d_m_isWord_70 : decode prog_14_method_16_code 70 = .ok (.iload_n 2, 1) := by decide +kernel
theorem d_m_isWord_71 : decode prog_14_method_16_code 71 = .ok (.ifCond .ne 51, 3) := by decide +kernel
theorem d_m_isWord_74 : decode prog_14_method_16_code 74 = .ok (.lload_n 0, 1) := by decide +kernel
theorem d_m_isWord_75 : decode prog_14_method_16_code 75 = .ok (.ldc2_w 177, 3) := by decide +kernel
theorem d_m_isWord_78 : decode prog_14_method_16_code 78 = .ok (.lcmp, 1) := by decide +kernel
theorem d_m_isWord_79 : decode prog_14_method_16_code 79 = .ok (.ifCond .eq 43, 3) := by decide +kernel
theorem d_m_isWord_82 : decode prog_14_method_16_code 82 = .ok (.lload_n 0, 1) := by decide +kernel
theorem d_m_isWord_83 : decode prog_14_method_16_code 83 = .ok (.ldc2_w 179, 3) := by decide +kernel
theorem d_m_isWord_86 : decode prog_14_method_16_code 86 = .ok (.lcmp, 1) := by decide +kernel
theorem d_m_isWord_87 : decode prog_14_method_16_code 87 = .ok (.ifCond .eq 35, 3) := by decide +kernel
theorem d_m_isWord_90 : decode prog_14_method_16_code 90 = .ok (.lload_n 0, 1) := by decide +kernel
theorem d_m_isWord_91 : decode prog_14_method_16_code 91 = .ok (.ldc2_w 181, 3) := by decide +kernel
theorem d_m_isWord_94 : decode prog_14_method_16_code 94 = .ok (.lcmp, 1) := by decide +kernel
theorem d_m_isWord_95 : decode prog_14_method_16_code 95 = .ok (.ifCond .eq 27, 3) := by decide +kernel
theorem d_m_isWord_98 : decode prog_14_method_16_code 98 = .ok (.lload_n 0, 1) := by decide +kernel
theorem d_m_isWord_99 : decode prog_14_method_16_code 99 = .ok (.ldc2_w 183, 3) := by decide +kernel
theorem d_m_isWord_102 : decode prog_14_method_16_code 102 = .ok (.lcmp, 1) := by decide +kernel
theorem d_m_isWord_103 : decode prog_14_method_16_code 103 = .ok (.ifCond .eq 19, 3) := by decide +kernel
theorem d_m_isWord_106 : decode prog_14_method_16_code 106 = .ok (.lload_n 0, 1) := by decide +kernel
theorem d_m_isWord_107 : decode prog_14_method_16_code 107 = .ok (.ldc2_w 185, 3) := by decide +kernel
theorem d_m_isWord_110 : decode prog_14_method_16_code 110 = .ok (.lcmp, 1) := by decide +kernel
theorem d_m_isWord_111 : decode prog_14_method_16_code 111 = .ok (.ifCond .eq 11, 3) := by decide +kernel
theorem d_m_isWord_114 : decode prog_14_method_16_code 114 = .ok (.lload_n 0, 1) := by decide +kernel
theorem d_m_isWord_115 : decode prog_14_method_16_code 115 = .ok (.ldc2_w 187, 3) := by decide +kernel
theorem d_m_isWord_118 : decode prog_14_method_16_code 118 = .ok (.lcmp, 1) := by decide +kernel
theorem d_m_isWord_119 : decode prog_14_method_16_code 119 = .ok (.ifCond .ne 7, 3) := by decide +kernel
theorem d_m_isWord_122 : decode prog_14_method_16_code 122 = .ok (.iconst 1, 1) := by decide +kernel
theorem d_m_isWord_123 : decode prog_14_method_16_code 123 = .ok (.goto 4, 3) := by decide +kernel
theorem d_m_isWord_126 : decode prog_14_method_16_code 126 = .ok (.iconst 0, 1) := by decide +kernel
theorem d_m_isWord_127 : decode prog_14_method_16_code 127 = .ok (.ireturn, 1) := by decide +kernel
def m_isWord_J69 (v0_69 : Int64) (s0_69 : Bool) : Option Bool := (if s0_69 = true then some true else (if v0_69 = 3470725 then some true else (if v0_69 = 582 then some true else (if v0_69 = 1361093 then some true else (if v0_69 = 5317957 then some true else (if v0_69 = 100975813 then some true else (if v0_69 = 5001990 then some true else some false)))))))
def m_isWord_J64 (v0_64 : Int64) : Option Bool := m_isWord_J69 v0_64 true
def m_isWord (x0 : Int64) : Option Bool := (if x0 = 370829775426821 then m_isWord_J64 x0 else (if x0 = 53482707 then m_isWord_J64 x0 else (if x0 = 5346309 then m_isWord_J64 x0 else (if x0 = 586700 then m_isWord_J64 x0 else (if x0 = 19973079 then m_isWord_J64 x0 else (if x0 = 22299220 then m_isWord_J64 x0 else (if x0 = 2184392 then m_isWord_J64 x0 else (if x0 = 236282194 then m_isWord_J64 x0 else m_isWord_J69 x0 false))))))))
set_option maxHeartbeats 4000000 in
set_option maxRecDepth 100000 in
theorem M_m_isWord {l : Launch} {D : va_G} {cA : Nat → ClassId} {b : Nat} {ad : Nat → Nat} {x0 : Int64} {S : MS} {T : CS} {o : Nat → Int64} {rr : Bool}  (h : m_isWord x0 = some rr) : Met l y_m_isWord (Cond.code y_m_isWord prog_14_method_16_code 3 (Option.some Jvm.ClassFile.FieldType.boolean) :: TW) { frames := 0, cells := 0, slots := 0, locals := 0 } (va_Pc [.long x0] (Rp D cA b ad (T, S, o))) (Qr D cA b ad (T, S, o) (some (.int (bI rr)))) 0 0 (Ab b) := by
  refine Ct_of (by decide) (Nat.le_of_ble_eq_true rfl) ?_
  intro p e R s m args below meth c ls Q H locs hR hQ hx hb hts hown hml hr hlk hC hX hS hl
  have hRf : R.frames = 0 := by rw [hR]
  have hRl : R.locals = 0 := by rw [hR]
  have hown : s.vm.findClass "TypeGuardModel" = some m.cls := hown
  have hl : lv_has ls 3 [(0, .long x0)] := hl
  rw [m_isWord] at h
  refine lv_lload_n hx hb d_m_isWord_0 rfl (lv_at hl 0 rfl) ?_
  refine lv_ldc2 (v := 370829775426821) hx hb hown (hts _ t_1176) d_m_isWord_1 ?_
  have J69 : ∀ (s0_69 : Bool) (H : Heap) (locs : List Loc) (ls : Array Slot), hp D cA b ad (T, S, o) H → va_S (Ab b) s.heap H locs → lv_has ls 3 [(0, .long x0)] → m_isWord_J69 x0 s0_69 = some rr → W p l e R s m args below meth c H locs 0 0 Q (F0 m 69 ls [.int (bI s0_69)]) := by
    intro s0_69 H locs ls  hX hS hl h
    rw [m_isWord_J69] at h
    refine lv_istore_n (lv' := [(2, .int (bI s0_69)), (0, .long x0)]) hx hb d_m_isWord_69 rfl hl (by decide) rfl (fun ls hl => ?_)
    refine lv_iload_n hx hb d_m_isWord_70 rfl (lv_at hl 0 rfl) ?_
    refine lz_ifne hx hb d_m_isWord_71 (tgt := 122) (by decide) (fun hc => ?_) (fun hc => ?_)
    · rw [if_pos hc] at h
      refine lv_iconst (v := 1) hx hb d_m_isWord_122 (by decide) ?_
      refine lv_goto hx hb d_m_isWord_123 (tgt := 127) (by decide) ?_
      obtain rfl := Option.some.inj h
      exact rt_zt hQ hx hb hr hX hS hlk d_m_isWord_127
    · rw [if_neg hc] at h
      refine lv_lload_n hx hb d_m_isWord_74 rfl (lv_at hl 1 rfl) ?_
      refine lv_ldc2 (v := 3470725) hx hb hown (hts _ t_1174) d_m_isWord_75 ?_
      refine lx_ifeq hx hb d_m_isWord_78 d_m_isWord_79 (tgt := 122) (by decide) (fun hc => ?_) (fun hc => ?_)
      · rw [if_pos hc] at h
        refine lv_iconst (v := 1) hx hb d_m_isWord_122 (by decide) ?_
        refine lv_goto hx hb d_m_isWord_123 (tgt := 127) (by decide) ?_
        obtain rfl := Option.some.inj h
        exact rt_zt hQ hx hb hr hX hS hlk d_m_isWord_127
      · rw [if_neg hc] at h
        refine lv_lload_n hx hb d_m_isWord_82 rfl (lv_at hl 1 rfl) ?_
        refine lv_ldc2 (v := 582) hx hb hown (hts _ t_1179) d_m_isWord_83 ?_
        refine lx_ifeq hx hb d_m_isWord_86 d_m_isWord_87 (tgt := 122) (by decide) (fun hc => ?_) (fun hc => ?_)
        · rw [if_pos hc] at h
          refine lv_iconst (v := 1) hx hb d_m_isWord_122 (by decide) ?_
          refine lv_goto hx hb d_m_isWord_123 (tgt := 127) (by decide) ?_
          obtain rfl := Option.some.inj h
          exact rt_zt hQ hx hb hr hX hS hlk d_m_isWord_127
        · rw [if_neg hc] at h
          refine lv_lload_n hx hb d_m_isWord_90 rfl (lv_at hl 1 rfl) ?_
          refine lv_ldc2 (v := 1361093) hx hb hown (hts _ t_1245) d_m_isWord_91 ?_
          refine lx_ifeq hx hb d_m_isWord_94 d_m_isWord_95 (tgt := 122) (by decide) (fun hc => ?_) (fun hc => ?_)
          · rw [if_pos hc] at h
            refine lv_iconst (v := 1) hx hb d_m_isWord_122 (by decide) ?_
            refine lv_goto hx hb d_m_isWord_123 (tgt := 127) (by decide) ?_
            obtain rfl := Option.some.inj h
            exact rt_zt hQ hx hb hr hX hS hlk d_m_isWord_127
          · rw [if_neg hc] at h
            refine lv_lload_n hx hb d_m_isWord_98 rfl (lv_at hl 1 rfl) ?_
            refine lv_ldc2 (v := 5317957) hx hb hown (hts _ t_1246) d_m_isWord_99 ?_
            refine lx_ifeq hx hb d_m_isWord_102 d_m_isWord_103 (tgt := 122) (by decide) (fun hc => ?_) (fun hc => ?_)
            · rw [if_pos hc] at h
              refine lv_iconst (v := 1) hx hb d_m_isWord_122 (by decide) ?_
              refine lv_goto hx hb d_m_isWord_123 (tgt := 127) (by decide) ?_
              obtain rfl := Option.some.inj h
              exact rt_zt hQ hx hb hr hX hS hlk d_m_isWord_127
            · rw [if_neg hc] at h
              refine lv_lload_n hx hb d_m_isWord_106 rfl (lv_at hl 1 rfl) ?_
              refine lv_ldc2 (v := 100975813) hx hb hown (hts _ t_1247) d_m_isWord_107 ?_
              refine lx_ifeq hx hb d_m_isWord_110 d_m_isWord_111 (tgt := 122) (by decide) (fun hc => ?_) (fun hc => ?_)
              · rw [if_pos hc] at h
                refine lv_iconst (v := 1) hx hb d_m_isWord_122 (by decide) ?_
                refine lv_goto hx hb d_m_isWord_123 (tgt := 127) (by decide) ?_
                obtain rfl := Option.some.inj h
                exact rt_zt hQ hx hb hr hX hS hlk d_m_isWord_127
              · rw [if_neg hc] at h
                refine lv_lload_n hx hb d_m_isWord_114 rfl (lv_at hl 1 rfl) ?_
                refine lv_ldc2 (v := 5001990) hx hb hown (hts _ t_1217) d_m_isWord_115 ?_
                refine lx_ifne hx hb d_m_isWord_118 d_m_isWord_119 (tgt := 126) (by decide) (fun hc => ?_) (fun hc => ?_)
                · rw [if_neg hc] at h
                  refine lv_iconst (v := 0) hx hb d_m_isWord_126 (by decide) ?_
                  obtain rfl := Option.some.inj h
                  exact rt_zf hQ hx hb hr hX hS hlk d_m_isWord_127
                · rw [if_pos hc] at h
                  refine lv_iconst (v := 1) hx hb d_m_isWord_122 (by decide) ?_
                  refine lv_goto hx hb d_m_isWord_123 (tgt := 127) (by decide) ?_
                  obtain rfl := Option.some.inj h
                  exact rt_zt hQ hx hb hr hX hS hlk d_m_isWord_127
  have J64 : ∀  (H : Heap) (locs : List Loc) (ls : Array Slot), hp D cA b ad (T, S, o) H → va_S (Ab b) s.heap H locs → lv_has ls 3 [(0, .long x0)] → m_isWord_J64 x0 = some rr → W p l e R s m args below meth c H locs 0 0 Q (F0 m 64 ls []) := by
    intro  H locs ls  hX hS hl h
    rw [m_isWord_J64] at h
    refine lv_iconst (v := 1) hx hb d_m_isWord_64 (by decide) ?_
    refine lv_goto hx hb d_m_isWord_65 (tgt := 69) (by decide) ?_
    exact J69 true H locs ls  hX hS (lv_sub hl [0] rfl) h
  refine lx_ifeq hx hb d_m_isWord_4 d_m_isWord_5 (tgt := 64) (by decide) (fun hc => ?_) (fun hc => ?_)
  · rw [if_pos hc] at h
    exact J64  H locs ls  hX hS (lv_sub hl [0] rfl) h
  · rw [if_neg hc] at h
    refine lv_lload_n hx hb d_m_isWord_8 rfl (lv_at hl 0 rfl) ?_
    refine lv_ldc2 (v := 53482707) hx hb hown (hts _ t_1175) d_m_isWord_9 ?_
    refine lx_ifeq hx hb d_m_isWord_12 d_m_isWord_13 (tgt := 64) (by decide) (fun hc => ?_) (fun hc => ?_)
    · rw [if_pos hc] at h
      exact J64  H locs ls  hX hS (lv_sub hl [0] rfl) h
    · rw [if_neg hc] at h
      refine lv_lload_n hx hb d_m_isWord_16 rfl (lv_at hl 0 rfl) ?_
      refine lv_ldc2 (v := 5346309) hx hb hown (hts _ t_1177) d_m_isWord_17 ?_
      refine lx_ifeq hx hb d_m_isWord_20 d_m_isWord_21 (tgt := 64) (by decide) (fun hc => ?_) (fun hc => ?_)
      · rw [if_pos hc] at h
        exact J64  H locs ls  hX hS (lv_sub hl [0] rfl) h
      · rw [if_neg hc] at h
        refine lv_lload_n hx hb d_m_isWord_24 rfl (lv_at hl 0 rfl) ?_
        refine lv_ldc2 (v := 586700) hx hb hown (hts _ t_1178) d_m_isWord_25 ?_
        refine lx_ifeq hx hb d_m_isWord_28 d_m_isWord_29 (tgt := 64) (by decide) (fun hc => ?_) (fun hc => ?_)
        · rw [if_pos hc] at h
          exact J64  H locs ls  hX hS (lv_sub hl [0] rfl) h
        · rw [if_neg hc] at h
          refine lv_lload_n hx hb d_m_isWord_32 rfl (lv_at hl 0 rfl) ?_
          refine lv_ldc2 (v := 19973079) hx hb hown (hts _ t_1170) d_m_isWord_33 ?_
          refine lx_ifeq hx hb d_m_isWord_36 d_m_isWord_37 (tgt := 64) (by decide) (fun hc => ?_) (fun hc => ?_)
          · rw [if_pos hc] at h
            exact J64  H locs ls  hX hS (lv_sub hl [0] rfl) h
          · rw [if_neg hc] at h
            refine lv_lload_n hx hb d_m_isWord_40 rfl (lv_at hl 0 rfl) ?_
            refine lv_ldc2 (v := 22299220) hx hb hown (hts _ t_1171) d_m_isWord_41 ?_
            refine lx_ifeq hx hb d_m_isWord_44 d_m_isWord_45 (tgt := 64) (by decide) (fun hc => ?_) (fun hc => ?_)
            · rw [if_pos hc] at h
              exact J64  H locs ls  hX hS (lv_sub hl [0] rfl) h
            · rw [if_neg hc] at h
              refine lv_lload_n hx hb d_m_isWord_48 rfl (lv_at hl 0 rfl) ?_
              refine lv_ldc2 (v := 2184392) hx hb hown (hts _ t_1172) d_m_isWord_49 ?_
              refine lx_ifeq hx hb d_m_isWord_52 d_m_isWord_53 (tgt := 64) (by decide) (fun hc => ?_) (fun hc => ?_)
              · rw [if_pos hc] at h
                exact J64  H locs ls  hX hS (lv_sub hl [0] rfl) h
              · rw [if_neg hc] at h
                refine lv_lload_n hx hb d_m_isWord_56 rfl (lv_at hl 0 rfl) ?_
                refine lv_ldc2 (v := 236282194) hx hb hown (hts _ t_1173) d_m_isWord_57 ?_
                refine lx_ifne hx hb d_m_isWord_60 d_m_isWord_61 (tgt := 68) (by decide) (fun hc => ?_) (fun hc => ?_)
                · rw [if_neg hc] at h
                  refine lv_iconst (v := 0) hx hb d_m_isWord_68 (by decide) ?_
                  exact J69 false H locs ls  hX hS (lv_sub hl [0] rfl) h
                · rw [if_pos hc] at h
                  exact J64  H locs ls  hX hS (lv_sub hl [0] rfl) h
abbrev y_m_declare : MethodName := ({ cls := "TypeGuardModel", name := "declare", desc := "(I[JII)V" } : Jvm.MethodName)
theorem d_m_declare_0 : decode prog_14_method_17_code 0 = .ok (.aload_n 0, 1) := by decide +kernel
theorem d_m_declare_1 : decode prog_14_method_17_code 1 = .ok (.invokevirtual 189, 3) := by decide +kernel
theorem d_m_declare_4 : decode prog_14_method_17_code 4 = .ok (.istore 5, 2) := by decide +kernel
theorem d_m_declare_6 : decode prog_14_method_17_code 6 = .ok (.aload_n 0, 1) := by decide +kernel
theorem d_m_declare_7 : decode prog_14_method_17_code 7 = .ok (.invokevirtual 193, 3) := by decide +kernel
theorem d_m_declare_10 : decode prog_14_method_17_code 10 = .ok (.ifCond .ne 4, 3) := by decide +kernel
theorem d_m_declare_13 : decode prog_14_method_17_code 13 = .ok (.return_, 1) := by decide +kernel
theorem d_m_declare_14 : decode prog_14_method_17_code 14 = .ok (.aload_n 0, 1) := by decide +kernel
theorem d_m_declare_15 : decode prog_14_method_17_code 15 = .ok (.getfield 134, 3) := by decide +kernel
theorem d_m_declare_18 : decode prog_14_method_17_code 18 = .ok (.invokestatic 197, 3) := by decide +kernel
theorem d_m_declare_21 : decode prog_14_method_17_code 21 = .ok (.ifCond .ne 87, 3) := by decide +kernel
theorem d_m_declare_24 : decode prog_14_method_17_code 24 = .ok (.aload_n 0, 1) := by decide +kernel
theorem d_m_declare_25 : decode prog_14_method_17_code 25 = .ok (.iload 5, 2) := by decide +kernel
theorem d_m_declare_27 : decode prog_14_method_17_code 27 = .ok (.aload_n 0, 1) := by decide +kernel
theorem d_m_declare_28 : decode prog_14_method_17_code 28 = .ok (.getfield 134, 3) := by decide +kernel
theorem d_m_declare_31 : decode prog_14_method_17_code 31 = .ok (.invokevirtual 201, 3) := by decide +kernel
theorem d_m_declare_34 : decode prog_14_method_17_code 34 = .ok (.ifCond .ge 74, 3) := by decide +kernel
theorem d_m_declare_37 : decode prog_14_method_17_code 37 = .ok (.aload_n 0, 1) := by decide +kernel
theorem d_m_declare_38 : decode prog_14_method_17_code 38 = .ok (.getfield 24, 3) := by decide +kernel
theorem d_m_declare_41 : decode prog_14_method_17_code 41 = .ok (.iconst 4, 1) := by decide +kernel
theorem d_m_declare_42 : decode prog_14_method_17_code 42 = .ok (.iload 5, 2) := by decide +kernel
theorem d_m_declare_44 : decode prog_14_method_17_code 44 = .ok (.imul, 1) := by decide +kernel
theorem d_m_declare_45 : decode prog_14_method_17_code 45 = .ok (.aload_n 0, 1) := by decide +kernel
theorem d_m_declare_46 : decode prog_14_method_17_code 46 = .ok (.getfield 17, 3) := by decide +kernel
theorem d_m_declare_49 : decode prog_14_method_17_code 49 = .ok (.iconst 5, 1) := by decide +kernel
theorem d_m_declare_50 : decode prog_14_method_17_code 50 = .ok (.iload 5, 2) := by decide +kernel
theorem d_m_declare_52 : decode prog_14_method_17_code 52 = .ok (.imul, 1) := by decide +kernel
theorem d_m_declare_53 : decode prog_14_method_17_code 53 = .ok (.iconst 1, 1) := by decide +kernel
theorem d_m_declare_54 : decode prog_14_method_17_code 54 = .ok (.iadd, 1) := by decide +kernel
theorem d_m_declare_55 : decode prog_14_method_17_code 55 = .ok (.iaload, 1) := by decide +kernel
theorem d_m_declare_56 : decode prog_14_method_17_code 56 = .ok (.aload_n 0, 1) := by decide +kernel
theorem d_m_declare_57 : decode prog_14_method_17_code 57 = .ok (.getfield 134, 3) := by decide +kernel
theorem d_m_declare_60 : decode prog_14_method_17_code 60 = .ok (.invokestatic 157, 3) := by decide +kernel
theorem d_m_declare_63 : decode prog_14_method_17_code 63 = .ok (.ifCond .ge 45, 3) := by decide +kernel
theorem d_m_declare_66 : decode prog_14_method_17_code 66 = .ok (.aload_n 0, 1) := by decide +kernel
theorem d_m_declare_67 : decode prog_14_method_17_code 67 = .ok (.iload 5, 2) := by decide +kernel
theorem d_m_declare_69 : decode prog_14_method_17_code 69 = .ok (.aload_n 0, 1) := by decide +kernel
theorem d_m_declare_70 : decode prog_14_method_17_code 70 = .ok (.getfield 134, 3) := by decide +kernel
theorem d_m_declare_73 : decode prog_14_method_17_code 73 = .ok (.invokevirtual 205, 3) := by decide +kernel
theorem d_m_declare_76 : decode prog_14_method_17_code 76 = .ok (.ifCond .ge 32, 3) := by decide +kernel
theorem d_m_declare_79 : decode prog_14_method_17_code 79 = .ok (.aload_n 0, 1) := by decide +kernel
theorem d_m_declare_80 : decode prog_14_method_17_code 80 = .ok (.getfield 33, 3) := by decide +kernel
theorem d_m_declare_83 : decode prog_14_method_17_code 83 = .ok (.iconst 3, 1) := by decide +kernel
theorem d_m_declare_84 : decode prog_14_method_17_code 84 = .ok (.iload 5, 2) := by decide +kernel
theorem d_m_declare_86 : decode prog_14_method_17_code 86 = .ok (.imul, 1) := by decide +kernel
theorem d_m_declare_87 : decode prog_14_method_17_code 87 = .ok (.aload_n 0, 1) := by decide +kernel
theorem d_m_declare_88 : decode prog_14_method_17_code 88 = .ok (.getfield 17, 3) := by decide +kernel
theorem d_m_declare_91 : decode prog_14_method_17_code 91 = .ok (.iconst 5, 1) := by decide +kernel
theorem d_m_declare_92 : decode prog_14_method_17_code 92 = .ok (.iload 5, 2) := by decide +kernel
theorem d_m_declare_94 : decode prog_14_method_17_code 94 = .ok (.imul, 1) := by decide +kernel
theorem d_m_declare_95 : decode prog_14_method_17_code 95 = .ok (.iconst 3, 1) := by decide +kernel
theorem d_m_declare_96 : decode prog_14_method_17_code 96 = .ok (.iadd, 1) := by decide +kernel
theorem d_m_declare_97 : decode prog_14_method_17_code 97 = .ok (.iaload, 1) := by decide +kernel
theorem d_m_declare_98 : decode prog_14_method_17_code 98 = .ok (.aload_n 0, 1) := by decide +kernel
theorem d_m_declare_99 : decode prog_14_method_17_code 99 = .ok (.getfield 134, 3) := by decide +kernel
theorem d_m_declare_102 : decode prog_14_method_17_code 102 = .ok (.invokestatic 157, 3) := by decide +kernel
theorem d_m_declare_105 : decode prog_14_method_17_code 105 = .ok (.ifCond .lt 7, 3) := by decide +kernel
theorem d_m_declare_108 : decode prog_14_method_17_code 108 = .ok (.iconst 1, 1) := by decide +kernel
theorem d_m_declare_109 : decode prog_14_method_17_code 109 = .ok (.goto 4, 3) := by decide +kernel
theorem d_m_declare_112 : decode prog_14_method_17_code 112 = .ok (.iconst 0, 1) := by decide +kernel
theorem d_m_declare_113 : decode prog_14_method_17_code 113 = .ok (.istore 6, 2) := by decide +kernel
theorem d_m_declare_115 : decode prog_14_method_17_code 115 = .ok (.iload 6, 2) := by decide +kernel
theorem d_m_declare_117 : decode prog_14_method_17_code 117 = .ok (.ifCond .eq 8, 3) := by decide +kernel
theorem d_m_declare_120 : decode prog_14_method_17_code 120 = .ok (.aload_n 0, 1) := by decide +kernel
theorem d_m_declare_121 : decode prog_14_method_17_code 121 = .ok (.iconst 3, 1) := by decide +kernel
theorem d_m_declare_122 : decode prog_14_method_17_code 122 = .ok (.invokevirtual 141, 3) := by decide +kernel
theorem d_m_declare_125 : decode prog_14_method_17_code 125 = .ok (.aload_n 0, 1) := by decide +kernel
theorem d_m_declare_126 : decode prog_14_method_17_code 126 = .ok (.getfield 17, 3) := by decide +kernel
theorem d_m_declare_129 : decode prog_14_method_17_code 129 = .ok (.iconst 5, 1) := by decide +kernel
theorem d_m_declare_130 : decode prog_14_method_17_code 130 = .ok (.iload 5, 2) := by decide +kernel
theorem d_m_declare_132 : decode prog_14_method_17_code 132 = .ok (.imul, 1) := by decide +kernel
theorem d_m_declare_133 : decode prog_14_method_17_code 133 = .ok (.iload_n 1, 1) := by decide +kernel
theorem d_m_declare_134 : decode prog_14_method_17_code 134 = .ok (.iadd, 1) := by decide +kernel
theorem d_m_declare_135 : decode prog_14_method_17_code 135 = .ok (.iaload, 1) := by decide +kernel
theorem d_m_declare_136 : decode prog_14_method_17_code 136 = .ok (.iload 4, 2) := by decide +kernel
theorem d_m_declare_138 : decode prog_14_method_17_code 138 = .ok (.if_icmp .ne 8, 3) := by decide +kernel
theorem d_m_declare_141 : decode prog_14_method_17_code 141 = .ok (.aload_n 0, 1) := by decide +kernel
theorem d_m_declare_142 : decode prog_14_method_17_code 142 = .ok (.iconst 4, 1) := by decide +kernel
theorem d_m_declare_143 : decode prog_14_method_17_code 143 = .ok (.invokevirtual 141, 3) := by decide +kernel
theorem d_m_declare_146 : decode prog_14_method_17_code 146 = .ok (.aload_n 0, 1) := by decide +kernel
theorem d_m_declare_147 : decode prog_14_method_17_code 147 = .ok (.getfield 109, 3) := by decide +kernel
theorem d_m_declare_150 : decode prog_14_method_17_code 150 = .ok (.ifCond .eq 4, 3) := by decide +kernel
theorem d_m_declare_153 : decode prog_14_method_17_code 153 = .ok (.return_, 1) := by decide +kernel
theorem d_m_declare_154 : decode prog_14_method_17_code 154 = .ok (.aload_n 2, 1) := by decide +kernel
theorem d_m_declare_155 : decode prog_14_method_17_code 155 = .ok (.iload_n 3, 1) := by decide +kernel
theorem d_m_declare_156 : decode prog_14_method_17_code 156 = .ok (.aload_n 0, 1) := by decide +kernel
theorem d_m_declare_157 : decode prog_14_method_17_code 157 = .ok (.getfield 17, 3) := by decide +kernel
theorem d_m_declare_160 : decode prog_14_method_17_code 160 = .ok (.iconst 5, 1) := by decide +kernel
theorem d_m_declare_161 : decode prog_14_method_17_code 161 = .ok (.iload 5, 2) := by decide +kernel
theorem d_m_declare_163 : decode prog_14_method_17_code 163 = .ok (.imul, 1) := by decide +kernel
theorem d_m_declare_164 : decode prog_14_method_17_code 164 = .ok (.iload_n 1, 1) := by decide +kernel
theorem d_m_declare_165 : decode prog_14_method_17_code 165 = .ok (.iadd, 1) := by decide +kernel
theorem d_m_declare_166 : decode prog_14_method_17_code 166 = .ok (.iaload, 1) := by decide +kernel
theorem d_m_declare_167 : decode prog_14_method_17_code 167 = .ok (.iadd, 1) := by decide +kernel
theorem d_m_declare_168 : decode prog_14_method_17_code 168 = .ok (.aload_n 0, 1) := by decide +kernel
theorem d_m_declare_169 : decode prog_14_method_17_code 169 = .ok (.getfield 134, 3) := by decide +kernel
theorem d_m_declare_172 : decode prog_14_method_17_code 172 = .ok (.lastore, 1) := by decide +kernel
theorem d_m_declare_173 : decode prog_14_method_17_code 173 = .ok (.aload_n 0, 1) := by decide +kernel
theorem d_m_declare_174 : decode prog_14_method_17_code 174 = .ok (.getfield 17, 3) := by decide +kernel
theorem d_m_declare_177 : decode prog_14_method_17_code 177 = .ok (.iconst 5, 1) := by decide +kernel
theorem d_m_declare_178 : decode prog_14_method_17_code 178 = .ok (.iload 5, 2) := by decide +kernel
theorem d_m_declare_180 : decode prog_14_method_17_code 180 = .ok (.imul, 1) := by decide +kernel
theorem d_m_declare_181 : decode prog_14_method_17_code 181 = .ok (.iload_n 1, 1) := by decide +kernel
theorem d_m_declare_182 : decode prog_14_method_17_code 182 = .ok (.iadd, 1) := by decide +kernel
theorem d_m_declare_183 : decode prog_14_method_17_code 183 = .ok (.dup2, 1) := by decide +kernel
theorem d_m_declare_184 : decode prog_14_method_17_code 184 = .ok (.iaload, 1) := by decide +kernel
theorem d_m_declare_185 : decode prog_14_method_17_code 185 = .ok (.iconst 1, 1) := by decide +kernel
theorem d_m_declare_186 : decode prog_14_method_17_code 186 = .ok (.iadd, 1) := by decide +kernel
theorem d_m_declare_187 : decode prog_14_method_17_code 187 = .ok (.iastore, 1) := by decide +kernel
theorem d_m_declare_188 : decode prog_14_method_17_code 188 = .ok (.aload_n 0, 1) := by decide +kernel
theorem d_m_declare_189 : decode prog_14_method_17_code 189 = .ok (.invokevirtual 148, 3) := by decide +kernel
theorem d_m_declare_192 : decode prog_14_method_17_code 192 = .ok (.return_, 1) := by decide +kernel
def m_declare_J146 (v1_146 : Int32) (v2_146 : Nat) (v3_146 : Int32) (v5_146 : Int32) (S_146 : MS) : Option MS := (if (gI S_146 0 7) = 0 then (if inbd ((5 * v5_146) + v1_146) 10 = true then (if inbd (v3_146 + (gI S_146 2 (txN ((5 * v5_146) + v1_146)))) (lnM v2_146) = true then (bd (pL S_146 v2_146 (txN (v3_146 + (gI S_146 2 (txN ((5 * v5_146) + v1_146))))) (gL S_146 0 11)) fun S172 => (bd (((5 * v5_146) + v1_146)) fun a183 => (if inbd a183 10 = true then (if inbd a183 10 = true then (bd (pI S172 2 (txN a183) ((gI S172 2 (txN a183)) + 1)) fun S187 => ((m_next S187).bind fun q189 => some q189)) else none) else none))) else none) else none) else some S_146)
def m_declare_J125 (v1_125 : Int32) (v2_125 : Nat) (v3_125 : Int32) (v4_125 : Int32) (v5_125 : Int32) (S_125 : MS) : Option MS := (if inbd ((5 * v5_125) + v1_125) 10 = true then (if (gI S_125 2 (txN ((5 * v5_125) + v1_125))) = v4_125 then ((m_fail 4 S_125).bind fun q143 => m_declare_J146 v1_125 v2_125 v3_125 v5_125 q143) else m_declare_J146 v1_125 v2_125 v3_125 v5_125 S_125) else none)
def m_declare_J113 (v1_113 : Int32) (v2_113 : Nat) (v3_113 : Int32) (v4_113 : Int32) (v5_113 : Int32) (s0_113 : Bool) (S_113 : MS) : Option MS := (if s0_113 = true then ((m_fail 3 S_113).bind fun q122 => m_declare_J125 v1_113 v2_113 v3_113 v4_113 v5_113 q122) else m_declare_J125 v1_113 v2_113 v3_113 v4_113 v5_113 S_113)
def m_declare_J108 (v1_108 : Int32) (v2_108 : Nat) (v3_108 : Int32) (v4_108 : Int32) (v5_108 : Int32) (S_108 : MS) : Option MS := m_declare_J113 v1_108 v2_108 v3_108 v4_108 v5_108 true S_108
def m_declare (x1 : Int32) (x2 : Nat) (x3 : Int32) (x4 : Int32) (S : MS) : Option MS := ((m_own S).bind fun q1 => ((m_isName S).bind fun q7 => (if q7.2 = true then ((m_isWord (gL q7.1 0 11)).bind fun q18 => (if q18 = true then m_declare_J108 x1 x2 x3 x4 q1 q7.1 else ((m_typeOf q1 (gL q7.1 0 11) q7.1).bind fun q31 => (if 0 ≤ q31 then m_declare_J108 x1 x2 x3 x4 q1 q7.1 else (if inbd ((5 * q1) + 1) 10 = true then ((m_find 4 (4 * q1) (gI q7.1 2 (txN ((5 * q1) + 1))) (gL q7.1 0 11) q7.1).bind fun q60 => (if 0 ≤ q60 then m_declare_J108 x1 x2 x3 x4 q1 q7.1 else ((m_classOf q1 (gL q7.1 0 11) q7.1).bind fun q73 => (if 0 ≤ q73 then m_declare_J108 x1 x2 x3 x4 q1 q7.1 else (if inbd ((5 * q1) + 3) 10 = true then ((m_find 7 (3 * q1) (gI q7.1 2 (txN ((5 * q1) + 3))) (gL q7.1 0 11) q7.1).bind fun q102 => (if q102 < 0 then m_declare_J113 x1 x2 x3 x4 q1 false q7.1 else m_declare_J108 x1 x2 x3 x4 q1 q7.1)) else none))))) else none))))) else some q7.1)))
set_option maxHeartbeats 4000000 in
set_option maxRecDepth 100000 in
theorem M_m_declare {l : Launch} {D : va_G} {cA : Nat → ClassId} {b : Nat} {ad : Nat → Nat} {x1 : Int32} {x2 : Nat} {x3 : Int32} {x4 : Int32} {S : MS} {T : CS} {o : Nat → Int64} {rr : MS} (hk2 : kdM x2 = 2) (h : m_declare x1 x2 x3 x4 S = some rr) : Met l y_m_declare (Cond.code y_m_declare prog_14_method_17_code 7 (Option.none : Option Jvm.ClassFile.FieldType) :: TW) { frames := 3, cells := 0, slots := 0, locals := 62 } (va_Pc [.ref (b + 262), .int x1, .ref (b + (262 + x2)), .int x3, .int x4] (Rp D cA b ad (T, S, o))) (Qr D cA b ad (T, rr, o) none) 0 0 (Ab b) := by
  refine Ct_of (by decide) (Nat.le_of_ble_eq_true rfl) ?_
  intro p e R s m args below meth c ls Q H locs hR hQ hx hb hts hown hml hr hlk hC hX hS hl
  have hRf : R.frames = 3 := by rw [hR]
  have hRl : R.locals = 62 := by rw [hR]
  have hown : s.vm.findClass "TypeGuardModel" = some m.cls := hown
  have hl : lv_has ls 7 [(0, .ref (b + 262)), (1, .int x1), (2, .ref (b + (262 + x2))), (3, .int x3), (4, .int x4)] := hl
  rw [m_declare] at h
  refine lv_aload_n hx hb d_m_declare_0 rfl (lv_at hl 0 rfl) ?_
  obtain ⟨q1, hc1, h⟩ := Option.bind_eq_some_iff.mp h
  refine ck_V (As := []) (rest := []) (st1 := [.int q1]) (M_m_own  hc1) t_1145 t_1147 p_38 t_1148 t_13 hx hb hts hown hC hX hS (hrc_m0 hC hX (by rfl)) hml hl.1 ⟨by rw [hRf]; decide, by rw [hRl]; decide⟩ ⟨rfl, rfl⟩ (n := 0) (by decide +kernel) rfl rfl rfl (lv_room (Nat.le_of_ble_eq_true rfl)) d_m_declare_1 (fun H locs hX hS => ?_)
  refine lv_istore (lv' := [(5, .int q1), (0, .ref (b + 262)), (1, .int x1), (2, .ref (b + (262 + x2))), (3, .int x3), (4, .int x4)]) hx hb d_m_declare_4 hl (by decide) rfl (fun ls hl => ?_)
  refine lv_aload_n hx hb d_m_declare_6 rfl (lv_at hl 1 rfl) ?_
  obtain ⟨q7, hc7, h⟩ := Option.bind_eq_some_iff.mp h
  refine ck_V (As := []) (rest := []) (st1 := [.int (bI q7.2)]) (M_m_isName  hc7) t_1202 t_1204 p_47 t_1205 t_13 hx hb hts hown hC hX hS (hrc_m0 hC hX (by rfl)) hml hl.1 ⟨by rw [hRf]; decide, by rw [hRl]; decide⟩ ⟨rfl, rfl⟩ (n := 0) (by decide +kernel) rfl rfl rfl (lv_room (Nat.le_of_ble_eq_true rfl)) d_m_declare_7 (fun H locs hX hS => ?_)
  refine lz_ifne hx hb d_m_declare_10 (tgt := 14) (by decide) (fun hc => ?_) (fun hc => ?_)
  · rw [if_pos hc] at h
    refine lv_aload_n hx hb d_m_declare_14 rfl (lv_at hl 1 rfl) ?_
    refine m_get_0_11 hx hb hts hown hC hX (by rfl) (hts _ t_998) d_m_declare_15 ?_
    obtain ⟨q18, hc18, h⟩ := Option.bind_eq_some_iff.mp h
    refine ck_S (As := [.long (gL q7.1 0 11)]) (rest := []) (st1 := [.int (bI q18)]) (M_m_isWord  hc18) t_1242 t_1243 t_1244 t_13 hx hb hts hown hC hX hS  hml hl.1 ⟨by rw [hRf]; decide, by rw [hRl]; decide⟩ ⟨rfl, rfl⟩ (n := 1) (by decide +kernel) rfl rfl rfl (lv_room (Nat.le_of_ble_eq_true rfl)) d_m_declare_18 (fun H locs hX hS => ?_)
    have J113 : ∀ (s0_113 : Bool) (H : Heap) (locs : List Loc) (ls : Array Slot), hp D cA b ad (T, q7.1, o) H → va_S (Ab b) s.heap H locs → lv_has ls 7 [(0, .ref (b + 262)), (1, .int x1), (2, .ref (b + (262 + x2))), (3, .int x3), (4, .int x4), (5, .int q1)] → m_declare_J113 x1 x2 x3 x4 q1 s0_113 q7.1 = some rr → W p l e R s m args below meth c H locs 0 0 Q (F0 m 113 ls [.int (bI s0_113)]) := by
      intro s0_113 H locs ls  hX hS hl h
      rw [m_declare_J113] at h
      refine lv_istore (lv' := [(6, .int (bI s0_113)), (0, .ref (b + 262)), (1, .int x1), (2, .ref (b + (262 + x2))), (3, .int x3), (4, .int x4), (5, .int q1)]) hx hb d_m_declare_113 hl (by decide) rfl (fun ls hl => ?_)
      refine lv_iload hx hb d_m_declare_115 (lv_at hl 0 rfl) ?_
      have J125 : ∀ (S_125 : MS) (H : Heap) (locs : List Loc) (ls : Array Slot), hp D cA b ad (T, S_125, o) H → va_S (Ab b) s.heap H locs → lv_has ls 7 [(0, .ref (b + 262)), (1, .int x1), (2, .ref (b + (262 + x2))), (3, .int x3), (4, .int x4), (5, .int q1)] → m_declare_J125 x1 x2 x3 x4 q1 S_125 = some rr → W p l e R s m args below meth c H locs 0 0 Q (F0 m 125 ls []) := by
        intro S_125 H locs ls  hX hS hl h
        rw [m_declare_J125] at h
        refine lv_aload_n hx hb d_m_declare_125 rfl (lv_at hl 0 rfl) ?_
        refine m_get_0_13 hx hb hts hown hC hX (by rfl) (hts _ t_1000) d_m_declare_126 ?_
        refine lv_iconst (v := 5) hx hb d_m_declare_129 (by decide) ?_
        refine lv_iload hx hb d_m_declare_130 (lv_at hl 5 rfl) ?_
        refine lv_imul hx hb d_m_declare_132 ?_
        refine lv_iload_n hx hb d_m_declare_133 rfl (lv_at hl 1 rfl) ?_
        refine lv_iadd hx hb d_m_declare_134 ?_
        by_cases hg135 : inbd ((5 * q1) + x1) 10 = true
        rotate_left; · rw [if_neg hg135] at h; cases h
        rw [if_pos hg135] at h
        refine m_ald_1 (k := 2) hx hb hC hX (by rfl) hg135 d_m_declare_135 ?_
        refine lv_iload hx hb d_m_declare_136 (lv_at hl 4 rfl) ?_
        have J146 : ∀ (S_146 : MS) (H : Heap) (locs : List Loc) (ls : Array Slot), hp D cA b ad (T, S_146, o) H → va_S (Ab b) s.heap H locs → lv_has ls 7 [(0, .ref (b + 262)), (1, .int x1), (2, .ref (b + (262 + x2))), (3, .int x3), (5, .int q1)] → m_declare_J146 x1 x2 x3 q1 S_146 = some rr → W p l e R s m args below meth c H locs 0 0 Q (F0 m 146 ls []) := by
          intro S_146 H locs ls  hX hS hl h
          rw [m_declare_J146] at h
          refine lv_aload_n hx hb d_m_declare_146 rfl (lv_at hl 0 rfl) ?_
          refine m_get_0_7 hx hb hts hown hC hX (by rfl) (hts _ t_994) d_m_declare_147 ?_
          refine lv_if_eq hx hb d_m_declare_150 (tgt := 154) (by decide) (fun hc => ?_) (fun hc => ?_)
          · rw [if_pos hc] at h
            refine lv_aload_n hx hb d_m_declare_154 rfl (lv_at hl 2 rfl) ?_
            refine lv_iload_n hx hb d_m_declare_155 rfl (lv_at hl 3 rfl) ?_
            refine lv_aload_n hx hb d_m_declare_156 rfl (lv_at hl 0 rfl) ?_
            refine m_get_0_13 hx hb hts hown hC hX (by rfl) (hts _ t_1000) d_m_declare_157 ?_
            refine lv_iconst (v := 5) hx hb d_m_declare_160 (by decide) ?_
            refine lv_iload hx hb d_m_declare_161 (lv_at hl 4 rfl) ?_
            refine lv_imul hx hb d_m_declare_163 ?_
            refine lv_iload_n hx hb d_m_declare_164 rfl (lv_at hl 1 rfl) ?_
            refine lv_iadd hx hb d_m_declare_165 ?_
            by_cases hg166 : inbd ((5 * q1) + x1) 10 = true
            rotate_left; · rw [if_neg hg166] at h; cases h
            rw [if_pos hg166] at h
            refine m_ald_1 (k := 2) hx hb hC hX (by rfl) hg166 d_m_declare_166 ?_
            refine lv_iadd hx hb d_m_declare_167 ?_
            refine lv_aload_n hx hb d_m_declare_168 rfl (lv_at hl 0 rfl) ?_
            refine m_get_0_11 hx hb hts hown hC hX (by rfl) (hts _ t_998) d_m_declare_169 ?_
            by_cases hg172 : inbd (x3 + (gI S_146 2 (txN ((5 * q1) + x1)))) (lnM x2) = true
            rotate_left; · rw [if_neg hg172] at h; cases h
            rw [if_pos hg172] at h
            refine m_ast_2 (k := x2) (v := (gL S_146 0 11)) hx hb hC hX hS hk2 hg172 d_m_declare_172 (fun H locs hX hS => ?_)
            obtain ⟨S172, e172, h⟩ := bd_some h
            rw [← e172] at hX
            refine lv_aload_n hx hb d_m_declare_173 rfl (lv_at hl 0 rfl) ?_
            refine m_get_0_13 hx hb hts hown hC hX (by rfl) (hts _ t_1000) d_m_declare_174 ?_
            refine lv_iconst (v := 5) hx hb d_m_declare_177 (by decide) ?_
            refine lv_iload hx hb d_m_declare_178 (lv_at hl 4 rfl) ?_
            refine lv_imul hx hb d_m_declare_180 ?_
            refine lv_iload_n hx hb d_m_declare_181 rfl (lv_at hl 1 rfl) ?_
            refine lv_iadd hx hb d_m_declare_182 ?_
            obtain ⟨a183, e183, h⟩ := bd_some h
            refine lt_I e183 ?_
            refine lv_dup2_11 hx hb d_m_declare_183 rfl rfl ?_
            by_cases hg184 : inbd a183 10 = true
            rotate_left; · rw [if_neg hg184] at h; cases h
            rw [if_pos hg184] at h
            refine m_ald_1 (k := 2) hx hb hC hX (by rfl) hg184 d_m_declare_184 ?_
            refine lv_iconst (v := 1) hx hb d_m_declare_185 (by decide) ?_
            refine lv_iadd hx hb d_m_declare_186 ?_
            by_cases hg187 : inbd a183 10 = true
            rotate_left; · rw [if_neg hg187] at h; cases h
            rw [if_pos hg187] at h
            refine m_ast_1 (k := 2) (v := ((gI S172 2 (txN a183)) + 1)) hx hb hC hX hS (by rfl) hg187 d_m_declare_187 (fun H locs hX hS => ?_)
            obtain ⟨S187, e187, h⟩ := bd_some h
            rw [← e187] at hX
            refine lv_aload_n hx hb d_m_declare_188 rfl (lv_at hl 0 rfl) ?_
            obtain ⟨q189, hc189, h⟩ := Option.bind_eq_some_iff.mp h
            refine ck_V (As := []) (rest := []) (st1 := []) (M_m_next  hc189) t_1149 t_1151 p_39 t_1152 t_13 hx hb hts hown hC hX hS (hrc_m0 hC hX (by rfl)) hml hl.1 ⟨by rw [hRf]; decide, by rw [hRl]; decide⟩ ⟨rfl, rfl⟩ (n := 0) (by decide +kernel) rfl rfl rfl (lv_room (Nat.le_of_ble_eq_true rfl)) d_m_declare_189 (fun H locs hX hS => ?_)
            obtain rfl := Option.some.inj h
            exact rt_v hQ hx hb hr hX hS hlk d_m_declare_192
          · rw [if_neg hc] at h
            obtain rfl := Option.some.inj h
            exact rt_v hQ hx hb hr hX hS hlk d_m_declare_153
        refine lv_icmp_ne hx hb d_m_declare_138 (tgt := 146) (by decide) (fun hc => ?_) (fun hc => ?_)
        · rw [if_neg hc] at h
          exact J146 S_125 H locs ls  hX hS (lv_sub hl [0, 1, 2, 3, 5] rfl) h
        · rw [if_pos hc] at h
          refine lv_aload_n hx hb d_m_declare_141 rfl (lv_at hl 0 rfl) ?_
          refine lv_iconst (v := 4) hx hb d_m_declare_142 (by decide) ?_
          obtain ⟨q143, hc143, h⟩ := Option.bind_eq_some_iff.mp h
          refine ck_V (As := [.int 4]) (rest := []) (st1 := []) (M_m_fail  hc143) t_1159 t_1161 p_40 t_1162 t_13 hx hb hts hown hC hX hS (hrc_m0 hC hX (by rfl)) hml hl.1 ⟨by rw [hRf]; decide, by rw [hRl]; decide⟩ ⟨rfl, rfl⟩ (n := 1) (by decide +kernel) rfl rfl rfl (lv_room (Nat.le_of_ble_eq_true rfl)) d_m_declare_143 (fun H locs hX hS => ?_)
          exact J146 q143 H locs ls  hX hS (lv_sub hl [0, 1, 2, 3, 5] rfl) h
      refine lz_ifeq hx hb d_m_declare_117 (tgt := 125) (by decide) (fun hc => ?_) (fun hc => ?_)
      · rw [if_neg hc] at h
        exact J125 q7.1 H locs ls  hX hS (lv_sub hl [1, 2, 3, 4, 5, 6] rfl) h
      · rw [if_pos hc] at h
        refine lv_aload_n hx hb d_m_declare_120 rfl (lv_at hl 1 rfl) ?_
        refine lv_iconst (v := 3) hx hb d_m_declare_121 (by decide) ?_
        obtain ⟨q122, hc122, h⟩ := Option.bind_eq_some_iff.mp h
        refine ck_V (As := [.int 3]) (rest := []) (st1 := []) (M_m_fail  hc122) t_1159 t_1161 p_40 t_1162 t_13 hx hb hts hown hC hX hS (hrc_m0 hC hX (by rfl)) hml hl.1 ⟨by rw [hRf]; decide, by rw [hRl]; decide⟩ ⟨rfl, rfl⟩ (n := 1) (by decide +kernel) rfl rfl rfl (lv_room (Nat.le_of_ble_eq_true rfl)) d_m_declare_122 (fun H locs hX hS => ?_)
        exact J125 q122 H locs ls  hX hS (lv_sub hl [1, 2, 3, 4, 5, 6] rfl) h
    have J108 : ∀  (H : Heap) (locs : List Loc) (ls : Array Slot), hp D cA b ad (T, q7.1, o) H → va_S (Ab b) s.heap H locs → lv_has ls 7 [(0, .ref (b + 262)), (1, .int x1), (2, .ref (b + (262 + x2))), (3, .int x3), (4, .int x4), (5, .int q1)] → m_declare_J108 x1 x2 x3 x4 q1 q7.1 = some rr → W p l e R s m args below meth c H locs 0 0 Q (F0 m 108 ls []) := by
      intro  H locs ls  hX hS hl h
      rw [m_declare_J108] at h
      refine lv_iconst (v := 1) hx hb d_m_declare_108 (by decide) ?_
      refine lv_goto hx hb d_m_declare_109 (tgt := 113) (by decide) ?_
      exact J113 true H locs ls  hX hS (lv_sub hl [0, 1, 2, 3, 4, 5] rfl) h
    refine lz_ifne hx hb d_m_declare_21 (tgt := 108) (by decide) (fun hc => ?_) (fun hc => ?_)
    · rw [if_pos hc] at h
      exact J108  H locs ls  hX hS (lv_sub hl [1, 2, 3, 4, 5, 0] rfl) h
    · rw [if_neg hc] at h
      refine lv_aload_n hx hb d_m_declare_24 rfl (lv_at hl 1 rfl) ?_
      refine lv_iload hx hb d_m_declare_25 (lv_at hl 0 rfl) ?_
      refine lv_aload_n hx hb d_m_declare_27 rfl (lv_at hl 1 rfl) ?_
      refine m_get_0_11 hx hb hts hown hC hX (by rfl) (hts _ t_998) d_m_declare_28 ?_
      obtain ⟨q31, hc31, h⟩ := Option.bind_eq_some_iff.mp h
      refine ck_V (As := [.int q1, .long (gL q7.1 0 11)]) (rest := []) (st1 := [.int q31]) (M_m_typeOf  hc31) t_1206 t_1208 p_48 t_1209 t_13 hx hb hts hown hC hX hS (hrc_m0 hC hX (by rfl)) hml hl.1 ⟨by rw [hRf]; decide, by rw [hRl]; decide⟩ ⟨rfl, rfl⟩ (n := 2) (by decide +kernel) rfl rfl rfl (lv_room (Nat.le_of_ble_eq_true rfl)) d_m_declare_31 (fun H locs hX hS => ?_)
      refine lv_if_ge hx hb d_m_declare_34 (tgt := 108) (by decide) (fun hc => ?_) (fun hc => ?_)
      · rw [if_pos hc] at h
        exact J108  H locs ls  hX hS (lv_sub hl [1, 2, 3, 4, 5, 0] rfl) h
      · rw [if_neg hc] at h
        refine lv_aload_n hx hb d_m_declare_37 rfl (lv_at hl 1 rfl) ?_
        refine m_get_0_15 hx hb hts hown hC hX (by rfl) (hts _ t_1002) d_m_declare_38 ?_
        refine lv_iconst (v := 4) hx hb d_m_declare_41 (by decide) ?_
        refine lv_iload hx hb d_m_declare_42 (lv_at hl 0 rfl) ?_
        refine lv_imul hx hb d_m_declare_44 ?_
        refine lv_aload_n hx hb d_m_declare_45 rfl (lv_at hl 1 rfl) ?_
        refine m_get_0_13 hx hb hts hown hC hX (by rfl) (hts _ t_1000) d_m_declare_46 ?_
        refine lv_iconst (v := 5) hx hb d_m_declare_49 (by decide) ?_
        refine lv_iload hx hb d_m_declare_50 (lv_at hl 0 rfl) ?_
        refine lv_imul hx hb d_m_declare_52 ?_
        refine lv_iconst (v := 1) hx hb d_m_declare_53 (by decide) ?_
        refine lv_iadd hx hb d_m_declare_54 ?_
        by_cases hg55 : inbd ((5 * q1) + 1) 10 = true
        rotate_left; · rw [if_neg hg55] at h; cases h
        rw [if_pos hg55] at h
        refine m_ald_1 (k := 2) hx hb hC hX (by rfl) hg55 d_m_declare_55 ?_
        refine lv_aload_n hx hb d_m_declare_56 rfl (lv_at hl 1 rfl) ?_
        refine m_get_0_11 hx hb hts hown hC hX (by rfl) (hts _ t_998) d_m_declare_57 ?_
        obtain ⟨q60, hc60, h⟩ := Option.bind_eq_some_iff.mp h
        refine ck_S (As := [.ref (b + 266), .int (4 * q1), .int (gI q7.1 2 (txN ((5 * q1) + 1))), .long (gL q7.1 0 11)]) (rest := []) (st1 := [.int q60]) (M_m_find (by rfl) hc60) t_1210 t_1211 t_1212 t_13 hx hb hts hown hC hX hS  hml hl.1 ⟨by rw [hRf]; decide, by rw [hRl]; decide⟩ ⟨rfl, rfl⟩ (n := 4) (by decide +kernel) rfl rfl rfl (lv_room (Nat.le_of_ble_eq_true rfl)) d_m_declare_60 (fun H locs hX hS => ?_)
        refine lv_if_ge hx hb d_m_declare_63 (tgt := 108) (by decide) (fun hc => ?_) (fun hc => ?_)
        · rw [if_pos hc] at h
          exact J108  H locs ls  hX hS (lv_sub hl [1, 2, 3, 4, 5, 0] rfl) h
        · rw [if_neg hc] at h
          refine lv_aload_n hx hb d_m_declare_66 rfl (lv_at hl 1 rfl) ?_
          refine lv_iload hx hb d_m_declare_67 (lv_at hl 0 rfl) ?_
          refine lv_aload_n hx hb d_m_declare_69 rfl (lv_at hl 1 rfl) ?_
          refine m_get_0_11 hx hb hts hown hC hX (by rfl) (hts _ t_998) d_m_declare_70 ?_
          obtain ⟨q73, hc73, h⟩ := Option.bind_eq_some_iff.mp h
          refine ck_V (As := [.int q1, .long (gL q7.1 0 11)]) (rest := []) (st1 := [.int q73]) (M_m_classOf  hc73) t_1222 t_1224 p_51 t_1225 t_13 hx hb hts hown hC hX hS (hrc_m0 hC hX (by rfl)) hml hl.1 ⟨by rw [hRf]; decide, by rw [hRl]; decide⟩ ⟨rfl, rfl⟩ (n := 2) (by decide +kernel) rfl rfl rfl (lv_room (Nat.le_of_ble_eq_true rfl)) d_m_declare_73 (fun H locs hX hS => ?_)
          refine lv_if_ge hx hb d_m_declare_76 (tgt := 108) (by decide) (fun hc => ?_) (fun hc => ?_)
          · rw [if_pos hc] at h
            exact J108  H locs ls  hX hS (lv_sub hl [1, 2, 3, 4, 5, 0] rfl) h
          · rw [if_neg hc] at h
            refine lv_aload_n hx hb d_m_declare_79 rfl (lv_at hl 1 rfl) ?_
            refine m_get_0_18 hx hb hts hown hC hX (by rfl) (hts _ t_1005) d_m_declare_80 ?_
            refine lv_iconst (v := 3) hx hb d_m_declare_83 (by decide) ?_
            refine lv_iload hx hb d_m_declare_84 (lv_at hl 0 rfl) ?_
            refine lv_imul hx hb d_m_declare_86 ?_
            refine lv_aload_n hx hb d_m_declare_87 rfl (lv_at hl 1 rfl) ?_
            refine m_get_0_13 hx hb hts hown hC hX (by rfl) (hts _ t_1000) d_m_declare_88 ?_
            refine lv_iconst (v := 5) hx hb d_m_declare_91 (by decide) ?_
            refine lv_iload hx hb d_m_declare_92 (lv_at hl 0 rfl) ?_
            refine lv_imul hx hb d_m_declare_94 ?_
            refine lv_iconst (v := 3) hx hb d_m_declare_95 (by decide) ?_
            refine lv_iadd hx hb d_m_declare_96 ?_
            by_cases hg97 : inbd ((5 * q1) + 3) 10 = true
            rotate_left; · rw [if_neg hg97] at h; cases h
            rw [if_pos hg97] at h
            refine m_ald_1 (k := 2) hx hb hC hX (by rfl) hg97 d_m_declare_97 ?_
            refine lv_aload_n hx hb d_m_declare_98 rfl (lv_at hl 1 rfl) ?_
            refine m_get_0_11 hx hb hts hown hC hX (by rfl) (hts _ t_998) d_m_declare_99 ?_
            obtain ⟨q102, hc102, h⟩ := Option.bind_eq_some_iff.mp h
            refine ck_S (As := [.ref (b + 269), .int (3 * q1), .int (gI q7.1 2 (txN ((5 * q1) + 3))), .long (gL q7.1 0 11)]) (rest := []) (st1 := [.int q102]) (M_m_find (by rfl) hc102) t_1210 t_1211 t_1212 t_13 hx hb hts hown hC hX hS  hml hl.1 ⟨by rw [hRf]; decide, by rw [hRl]; decide⟩ ⟨rfl, rfl⟩ (n := 4) (by decide +kernel) rfl rfl rfl (lv_room (Nat.le_of_ble_eq_true rfl)) d_m_declare_102 (fun H locs hX hS => ?_)
            refine lv_if_lt hx hb d_m_declare_105 (tgt := 112) (by decide) (fun hc => ?_) (fun hc => ?_)
            · rw [if_pos hc] at h
              refine lv_iconst (v := 0) hx hb d_m_declare_112 (by decide) ?_
              exact J113 false H locs ls  hX hS (lv_sub hl [1, 2, 3, 4, 5, 0] rfl) h
            · rw [if_neg hc] at h
              exact J108  H locs ls  hX hS (lv_sub hl [1, 2, 3, 4, 5, 0] rfl) h
  · rw [if_neg hc] at h
    obtain rfl := Option.some.inj h
    exact rt_v hQ hx hb hr hX hS hlk d_m_declare_13
