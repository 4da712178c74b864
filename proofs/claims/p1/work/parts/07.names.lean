abbrev y_cTypeSet_clearNames : MethodName := ({ cls := "TypeGuard$TypeSet", name := "clearNames", desc := "()V" } : Jvm.MethodName)
theorem d_cTypeSet_clearNames_0 : decode prog_10_method_2_code 0 = .ok (.aload_n 0, 1) := by decide +kernel
theorem d_cTypeSet_clearNames_1 : decode prog_10_method_2_code 1 = .ok (.iconst 0, 1) := by decide +kernel
theorem d_cTypeSet_clearNames_2 : decode prog_10_method_2_code 2 = .ok (.putfield 7, 3) := by decide +kernel
theorem d_cTypeSet_clearNames_5 : decode prog_10_method_2_code 5 = .ok (.aload_n 0, 1) := by decide +kernel
theorem d_cTypeSet_clearNames_6 : decode prog_10_method_2_code 6 = .ok (.iconst 0, 1) := by decide +kernel
theorem d_cTypeSet_clearNames_7 : decode prog_10_method_2_code 7 = .ok (.putfield 13, 3) := by decide +kernel
theorem d_cTypeSet_clearNames_10 : decode prog_10_method_2_code 10 = .ok (.aload_n 0, 1) := by decide +kernel
theorem d_cTypeSet_clearNames_11 : decode prog_10_method_2_code 11 = .ok (.iconst 0, 1) := by decide +kernel
theorem d_cTypeSet_clearNames_12 : decode prog_10_method_2_code 12 = .ok (.putfield 16, 3) := by decide +kernel
theorem d_cTypeSet_clearNames_15 : decode prog_10_method_2_code 15 = .ok (.aload_n 0, 1) := by decide +kernel
theorem d_cTypeSet_clearNames_16 : decode prog_10_method_2_code 16 = .ok (.iconst 0, 1) := by decide +kernel
theorem d_cTypeSet_clearNames_17 : decode prog_10_method_2_code 17 = .ok (.putfield 19, 3) := by decide +kernel
theorem d_cTypeSet_clearNames_20 : decode prog_10_method_2_code 20 = .ok (.return_, 1) := by decide +kernel
def cTypeSet_clearNames (k0 : Nat) (S : CS) : Option CS := (bd (pI S k0 2 0) fun S2 => (bd (pI S2 k0 3 0) fun S7 => (bd (pI S7 k0 4 0) fun S12 => (bd (pI S12 k0 5 0) fun S17 => some S17))))
set_option maxHeartbeats 4000000 in
set_option maxRecDepth 100000 in
theorem M_cTypeSet_clearNames {l : Launch} {D : va_G} {cA : Nat → ClassId} {b : Nat} {ad : Nat → Nat} {k0 : Nat} {S : CS} {T : MS × (Nat → Int64)} {rr : CS} (hk0 : kd k0 = 15) (h : cTypeSet_clearNames k0 S = some rr) : Met l y_cTypeSet_clearNames (Cond.code y_cTypeSet_clearNames prog_10_method_2_code 1 (Option.none : Option Jvm.ClassFile.FieldType) :: TW) { frames := 0, cells := 0, slots := 0, locals := 0 } (va_Pc [.ref (b + k0)] (Rp D cA b ad (S, T))) (Qr D cA b ad (rr, T) none) 0 0 (Ab b) := by
  refine Ct_of (by decide) (Nat.le_of_ble_eq_true rfl) ?_
  intro p e R s m args below meth c ls Q H locs hR hQ hx hb hts hown hml hr hlk hC hX hS hl
  have hRf : R.frames = 0 := by rw [hR]
  have hRl : R.locals = 0 := by rw [hR]
  have hown : s.vm.findClass "TypeGuard$TypeSet" = some m.cls := hown
  have hl : lv_has ls 1 [(0, .ref (b + k0))] := hl
  rw [cTypeSet_clearNames] at h
  refine lv_aload_n hx hb d_cTypeSet_clearNames_0 rfl (lv_at hl 0 rfl) ?_
  refine lv_iconst (v := 0) hx hb d_cTypeSet_clearNames_1 (by decide) ?_
  refine c_put_15_2 (k := k0) (v := 0) hx hb hts hown hC hX hS hk0 (hts _ t_108) d_cTypeSet_clearNames_2 (fun H locs hX hS => ?_)
  obtain ⟨S2, e2, h⟩ := bd_some h
  rw [← e2] at hX
  refine lv_aload_n hx hb d_cTypeSet_clearNames_5 rfl (lv_at hl 0 rfl) ?_
  refine lv_iconst (v := 0) hx hb d_cTypeSet_clearNames_6 (by decide) ?_
  refine c_put_15_3 (k := k0) (v := 0) hx hb hts hown hC hX hS hk0 (hts _ t_110) d_cTypeSet_clearNames_7 (fun H locs hX hS => ?_)
  obtain ⟨S7, e7, h⟩ := bd_some h
  rw [← e7] at hX
  refine lv_aload_n hx hb d_cTypeSet_clearNames_10 rfl (lv_at hl 0 rfl) ?_
  refine lv_iconst (v := 0) hx hb d_cTypeSet_clearNames_11 (by decide) ?_
  refine c_put_15_4 (k := k0) (v := 0) hx hb hts hown hC hX hS hk0 (hts _ t_112) d_cTypeSet_clearNames_12 (fun H locs hX hS => ?_)
  obtain ⟨S12, e12, h⟩ := bd_some h
  rw [← e12] at hX
  refine lv_aload_n hx hb d_cTypeSet_clearNames_15 rfl (lv_at hl 0 rfl) ?_
  refine lv_iconst (v := 0) hx hb d_cTypeSet_clearNames_16 (by decide) ?_
  refine c_put_15_5 (k := k0) (v := 0) hx hb hts hown hC hX hS hk0 (hts _ t_114) d_cTypeSet_clearNames_17 (fun H locs hX hS => ?_)
  obtain ⟨S17, e17, h⟩ := bd_some h
  rw [← e17] at hX
  obtain rfl := Option.some.inj h
  exact rt_v hQ hx hb hr hX hS hlk d_cTypeSet_clearNames_20
abbrev y_cNames_numberOf : MethodName := ({ cls := "TypeGuard$Names", name := "numberOf", desc := "(J)I" } : Jvm.MethodName)
theorem d_cNames_numberOf_0 : decode prog_4_method_3_code 0 = .ok (.iconst 0, 1) := by decide +kernel
theorem d_cNames_numberOf_1 : decode prog_4_method_3_code 1 = .ok (.istore_n 3, 1) := by decide +kernel
theorem d_cNames_numberOf_2 : decode prog_4_method_3_code 2 = .ok (.iload_n 3, 1) := by decide +kernel
theorem d_cNames_numberOf_3 : decode prog_4_method_3_code 3 = .ok (.aload_n 0, 1) := by decide +kernel
theorem d_cNames_numberOf_4 : decode prog_4_method_3_code 4 = .ok (.getfield 15, 3) := by decide +kernel
theorem d_cNames_numberOf_7 : decode prog_4_method_3_code 7 = .ok (.if_icmp .ge 22, 3) := by decide +kernel
theorem d_cNames_numberOf_10 : decode prog_4_method_3_code 10 = .ok (.aload_n 0, 1) := by decide +kernel
theorem d_cNames_numberOf_11 : decode prog_4_method_3_code 11 = .ok (.getfield 9, 3) := by decide +kernel
theorem d_cNames_numberOf_14 : decode prog_4_method_3_code 14 = .ok (.iload_n 3, 1) := by decide +kernel
theorem d_cNames_numberOf_15 : decode prog_4_method_3_code 15 = .ok (.laload, 1) := by decide +kernel
theorem d_cNames_numberOf_16 : decode prog_4_method_3_code 16 = .ok (.lload_n 1, 1) := by decide +kernel
theorem d_cNames_numberOf_17 : decode prog_4_method_3_code 17 = .ok (.lcmp, 1) := by decide +kernel
theorem d_cNames_numberOf_18 : decode prog_4_method_3_code 18 = .ok (.ifCond .ne 5, 3) := by decide +kernel
theorem d_cNames_numberOf_21 : decode prog_4_method_3_code 21 = .ok (.iload_n 3, 1) := by decide +kernel
theorem d_cNames_numberOf_22 : decode prog_4_method_3_code 22 = .ok (.ireturn, 1) := by decide +kernel
theorem d_cNames_numberOf_23 : decode prog_4_method_3_code 23 = .ok (.iinc 3 1, 3) := by decide +kernel
theorem d_cNames_numberOf_26 : decode prog_4_method_3_code 26 = .ok (.goto (-24), 3) := by decide +kernel
theorem d_cNames_numberOf_29 : decode prog_4_method_3_code 29 = .ok (.iconst (-1), 1) := by decide +kernel
theorem d_cNames_numberOf_30 : decode prog_4_method_3_code 30 = .ok (.ireturn, 1) := by decide +kernel
def cNames_numberOf_L2 (v0_2 : Nat) (v1_2 : Int64) (S_2 : CS) : Nat → Int32 → Option Int32
  | 0, _ => none
  | n + 1, v3_2 => (if (gI S_2 v0_2 1) ≤ v3_2 then some (-1) else (if inbd v3_2 (ln (v0_2 + 1)) = true then (if (gL S_2 (v0_2 + 1) (txN v3_2)) = v1_2 then some v3_2 else (bd ((v3_2 + 1)) fun a23 => (cNames_numberOf_L2 v0_2 v1_2 S_2 n) a23)) else none))
def cNames_numberOf (k0 : Nat) (x1 : Int64) (S : CS) : Option Int32 := cNames_numberOf_L2 k0 x1 S 600 0
set_option maxHeartbeats 4000000 in
set_option maxRecDepth 100000 in
theorem M_cNames_numberOf {l : Launch} {D : va_G} {cA : Nat → ClassId} {b : Nat} {ad : Nat → Nat} {k0 : Nat} {x1 : Int64} {S : CS} {T : MS × (Nat → Int64)} {rr : Int32} (hk0 : kd k0 = 8) (h : cNames_numberOf k0 x1 S = some rr) : Met l y_cNames_numberOf (Cond.code y_cNames_numberOf prog_4_method_3_code 4 (Option.some Jvm.ClassFile.FieldType.int) :: TW) { frames := 0, cells := 0, slots := 0, locals := 0 } (va_Pc [.ref (b + k0), .long x1] (Rp D cA b ad (S, T))) (Qr D cA b ad (S, T) (some (.int rr))) 0 0 (Ab b) := by
  refine Ct_of (by decide) (Nat.le_of_ble_eq_true rfl) ?_
  intro p e R s m args below meth c ls Q H locs hR hQ hx hb hts hown hml hr hlk hC hX hS hl
  have hRf : R.frames = 0 := by rw [hR]
  have hRl : R.locals = 0 := by rw [hR]
  have hown : s.vm.findClass "TypeGuard$Names" = some m.cls := hown
  have hl : lv_has ls 4 [(0, .ref (b + k0)), (1, .long x1)] := hl
  rw [cNames_numberOf] at h
  refine lv_iconst (v := 0) hx hb d_cNames_numberOf_0 (by decide) ?_
  refine lv_istore_n (lv' := [(3, .int 0), (0, .ref (b + k0)), (1, .long x1)]) hx hb d_cNames_numberOf_1 rfl hl (by decide) rfl (fun ls hl => ?_)
  have L2 : ∀ (n2 : Nat) (v3_2 : Int32) (H : Heap) (locs : List Loc) (ls : Array Slot), hp D cA b ad (S, T) H → va_S (Ab b) s.heap H locs → lv_has ls 4 [(0, .ref (b + k0)), (1, .long x1), (3, .int v3_2)] → cNames_numberOf_L2 k0 x1 S n2 v3_2 = some rr → W p l e R s m args below meth c H locs 0 0 Q (F0 m 2 ls []) := by
    intro n2; induction n2 with
    | zero => intro v3_2 H locs ls  hX hS hl h; rw [cNames_numberOf_L2] at h; cases h
    | succ n2 ih2 =>
      intro v3_2 H locs ls  hX hS hl h
      rw [cNames_numberOf_L2] at h
      refine lv_iload_n hx hb d_cNames_numberOf_2 rfl (lv_at hl 2 rfl) ?_
      refine lv_aload_n hx hb d_cNames_numberOf_3 rfl (lv_at hl 0 rfl) ?_
      refine c_get_8_1 (k := k0) hx hb hts hown hC hX hk0 (hts _ t_79) d_cNames_numberOf_4 ?_
      refine lv_icmp_ge hx hb d_cNames_numberOf_7 (tgt := 29) (by decide) (fun hc => ?_) (fun hc => ?_)
      · rw [if_pos hc] at h
        refine lv_iconst (v := (-1)) hx hb d_cNames_numberOf_29 (by decide) ?_
        obtain rfl := Option.some.inj h
        exact rt_i hQ hx hb hr hX hS hlk d_cNames_numberOf_30
      · rw [if_neg hc] at h
        refine lv_aload_n hx hb d_cNames_numberOf_10 rfl (lv_at hl 0 rfl) ?_
        refine c_get_8_0 (k := k0) hx hb hts hown hC hX hk0 (hts _ t_78) d_cNames_numberOf_11 ?_
        refine lv_iload_n hx hb d_cNames_numberOf_14 rfl (lv_at hl 2 rfl) ?_
        by_cases hg15 : inbd v3_2 (ln (k0 + 1)) = true
        rotate_left; · rw [if_neg hg15] at h; cases h
        rw [if_pos hg15] at h
        refine c_ald_9 (k := (k0 + 1)) hx hb hC hX (kx_8_1 hk0) hg15 d_cNames_numberOf_15 ?_
        refine lv_lload_n hx hb d_cNames_numberOf_16 rfl (lv_at hl 1 rfl) ?_
        refine lx_ifne hx hb d_cNames_numberOf_17 d_cNames_numberOf_18 (tgt := 23) (by decide) (fun hc => ?_) (fun hc => ?_)
        · rw [if_neg hc] at h
          obtain ⟨a23, e23, h⟩ := bd_some h
          refine lv_iinc (v := a23) (lv' := [(3, .int a23), (0, .ref (b + k0)), (1, .long x1)]) hx hb d_cNames_numberOf_23 hl (k := 2) rfl e23.symm (by decide) rfl (fun ls hl => ?_)
          refine lv_goto hx hb d_cNames_numberOf_26 (tgt := 2) (by decide) ?_
          exact ih2 a23 H locs ls  hX hS (lv_sub hl [1, 2, 0] rfl) h
        · rw [if_pos hc] at h
          refine lv_iload_n hx hb d_cNames_numberOf_21 rfl (lv_at hl 2 rfl) ?_
          obtain rfl := Option.some.inj h
          exact rt_i hQ hx hb hr hX hS hlk d_cNames_numberOf_22
  exact L2 600 0 H locs ls  hX hS (lv_sub hl [1, 2, 0] rfl) h
abbrev y_cTypeSet_mention : MethodName := ({ cls := "TypeGuard$TypeSet", name := "mention", desc := "(IIZ)V" } : Jvm.MethodName)
theorem d_cTypeSet_mention_0 : decode prog_10_method_3_code 0 = .ok (.iload_n 3, 1) := by decide +kernel
theorem d_cTypeSet_mention_1 : decode prog_10_method_3_code 1 = .ok (.ifCond .eq 26, 3) := by decide +kernel
theorem d_cTypeSet_mention_4 : decode prog_10_method_3_code 4 = .ok (.aload_n 0, 1) := by decide +kernel
theorem d_cTypeSet_mention_5 : decode prog_10_method_3_code 5 = .ok (.dup, 1) := by decide +kernel
theorem d_cTypeSet_mention_6 : decode prog_10_method_3_code 6 = .ok (.getfield 16, 3) := by decide +kernel
theorem d_cTypeSet_mention_9 : decode prog_10_method_3_code 9 = .ok (.iload_n 1, 1) := by decide +kernel
theorem d_cTypeSet_mention_10 : decode prog_10_method_3_code 10 = .ok (.ior, 1) := by decide +kernel
theorem d_cTypeSet_mention_11 : decode prog_10_method_3_code 11 = .ok (.putfield 16, 3) := by decide +kernel
theorem d_cTypeSet_mention_14 : decode prog_10_method_3_code 14 = .ok (.aload_n 0, 1) := by decide +kernel
theorem d_cTypeSet_mention_15 : decode prog_10_method_3_code 15 = .ok (.dup, 1) := by decide +kernel
theorem d_cTypeSet_mention_16 : decode prog_10_method_3_code 16 = .ok (.getfield 19, 3) := by decide +kernel
theorem d_cTypeSet_mention_19 : decode prog_10_method_3_code 19 = .ok (.iload_n 2, 1) := by decide +kernel
theorem d_cTypeSet_mention_20 : decode prog_10_method_3_code 20 = .ok (.ior, 1) := by decide +kernel
theorem d_cTypeSet_mention_21 : decode prog_10_method_3_code 21 = .ok (.putfield 19, 3) := by decide +kernel
theorem d_cTypeSet_mention_24 : decode prog_10_method_3_code 24 = .ok (.goto 23, 3) := by decide +kernel
theorem d_cTypeSet_mention_27 : decode prog_10_method_3_code 27 = .ok (.aload_n 0, 1) := by decide +kernel
theorem d_cTypeSet_mention_28 : decode prog_10_method_3_code 28 = .ok (.dup, 1) := by decide +kernel
theorem d_cTypeSet_mention_29 : decode prog_10_method_3_code 29 = .ok (.getfield 7, 3) := by decide +kernel
theorem d_cTypeSet_mention_32 : decode prog_10_method_3_code 32 = .ok (.iload_n 1, 1) := by decide +kernel
theorem d_cTypeSet_mention_33 : decode prog_10_method_3_code 33 = .ok (.ior, 1) := by decide +kernel
theorem d_cTypeSet_mention_34 : decode prog_10_method_3_code 34 = .ok (.putfield 7, 3) := by decide +kernel
theorem d_cTypeSet_mention_37 : decode prog_10_method_3_code 37 = .ok (.aload_n 0, 1) := by decide +kernel
theorem d_cTypeSet_mention_38 : decode prog_10_method_3_code 38 = .ok (.dup, 1) := by decide +kernel
theorem d_cTypeSet_mention_39 : decode prog_10_method_3_code 39 = .ok (.getfield 13, 3) := by decide +kernel
theorem d_cTypeSet_mention_42 : decode prog_10_method_3_code 42 = .ok (.iload_n 2, 1) := by decide +kernel
theorem d_cTypeSet_mention_43 : decode prog_10_method_3_code 43 = .ok (.ior, 1) := by decide +kernel
theorem d_cTypeSet_mention_44 : decode prog_10_method_3_code 44 = .ok (.putfield 13, 3) := by decide +kernel
theorem d_cTypeSet_mention_47 : decode prog_10_method_3_code 47 = .ok (.return_, 1) := by decide +kernel
def cTypeSet_mention (k0 : Nat) (x1 : Int32) (x2 : Int32) (x3 : Bool) (S : CS) : Option CS := (if x3 = true then (bd (pI S k0 4 ((gI S k0 4) ||| x1)) fun S11 => (bd (pI S11 k0 5 ((gI S11 k0 5) ||| x2)) fun S21 => some S21)) else (bd (pI S k0 2 ((gI S k0 2) ||| x1)) fun S34 => (bd (pI S34 k0 3 ((gI S34 k0 3) ||| x2)) fun S44 => some S44)))
set_option maxHeartbeats 4000000 in
set_option maxRecDepth 100000 in
theorem M_cTypeSet_mention {l : Launch} {D : va_G} {cA : Nat → ClassId} {b : Nat} {ad : Nat → Nat} {k0 : Nat} {x1 : Int32} {x2 : Int32} {x3 : Bool} {S : CS} {T : MS × (Nat → Int64)} {rr : CS} (hk0 : kd k0 = 15) (h : cTypeSet_mention k0 x1 x2 x3 S = some rr) : Met l y_cTypeSet_mention (Cond.code y_cTypeSet_mention prog_10_method_3_code 4 (Option.none : Option Jvm.ClassFile.FieldType) :: TW) { frames := 0, cells := 0, slots := 0, locals := 0 } (va_Pc [.ref (b + k0), .int x1, .int x2, .int (bI x3)] (Rp D cA b ad (S, T))) (Qr D cA b ad (rr, T) none) 0 0 (Ab b) := by
  refine Ct_of (by decide) (Nat.le_of_ble_eq_true rfl) ?_
  intro p e R s m args below meth c ls Q H locs hR hQ hx hb hts hown hml hr hlk hC hX hS hl
  have hRf : R.frames = 0 := by rw [hR]
  have hRl : R.locals = 0 := by rw [hR]
  have hown : s.vm.findClass "TypeGuard$TypeSet" = some m.cls := hown
  have hl : lv_has ls 4 [(0, .ref (b + k0)), (1, .int x1), (2, .int x2), (3, .int (bI x3))] := hl
  rw [cTypeSet_mention] at h
  refine lv_iload_n hx hb d_cTypeSet_mention_0 rfl (lv_at hl 3 rfl) ?_
  refine lz_ifeq hx hb d_cTypeSet_mention_1 (tgt := 27) (by decide) (fun hc => ?_) (fun hc => ?_)
  · rw [if_neg hc] at h
    refine lv_aload_n hx hb d_cTypeSet_mention_27 rfl (lv_at hl 0 rfl) ?_
    refine lv_dup hx hb d_cTypeSet_mention_28 rfl ?_
    refine c_get_15_2 (k := k0) hx hb hts hown hC hX hk0 (hts _ t_108) d_cTypeSet_mention_29 ?_
    refine lv_iload_n hx hb d_cTypeSet_mention_32 rfl (lv_at hl 1 rfl) ?_
    refine lv_ior hx hb d_cTypeSet_mention_33 ?_
    refine c_put_15_2 (k := k0) (v := ((gI S k0 2) ||| x1)) hx hb hts hown hC hX hS hk0 (hts _ t_108) d_cTypeSet_mention_34 (fun H locs hX hS => ?_)
    obtain ⟨S34, e34, h⟩ := bd_some h
    rw [← e34] at hX
    refine lv_aload_n hx hb d_cTypeSet_mention_37 rfl (lv_at hl 0 rfl) ?_
    refine lv_dup hx hb d_cTypeSet_mention_38 rfl ?_
    refine c_get_15_3 (k := k0) hx hb hts hown hC hX hk0 (hts _ t_110) d_cTypeSet_mention_39 ?_
    refine lv_iload_n hx hb d_cTypeSet_mention_42 rfl (lv_at hl 2 rfl) ?_
    refine lv_ior hx hb d_cTypeSet_mention_43 ?_
    refine c_put_15_3 (k := k0) (v := ((gI S34 k0 3) ||| x2)) hx hb hts hown hC hX hS hk0 (hts _ t_110) d_cTypeSet_mention_44 (fun H locs hX hS => ?_)
    obtain ⟨S44, e44, h⟩ := bd_some h
    rw [← e44] at hX
    obtain rfl := Option.some.inj h
    exact rt_v hQ hx hb hr hX hS hlk d_cTypeSet_mention_47
  · rw [if_pos hc] at h
    refine lv_aload_n hx hb d_cTypeSet_mention_4 rfl (lv_at hl 0 rfl) ?_
    refine lv_dup hx hb d_cTypeSet_mention_5 rfl ?_
    refine c_get_15_4 (k := k0) hx hb hts hown hC hX hk0 (hts _ t_112) d_cTypeSet_mention_6 ?_
    refine lv_iload_n hx hb d_cTypeSet_mention_9 rfl (lv_at hl 1 rfl) ?_
    refine lv_ior hx hb d_cTypeSet_mention_10 ?_
    refine c_put_15_4 (k := k0) (v := ((gI S k0 4) ||| x1)) hx hb hts hown hC hX hS hk0 (hts _ t_112) d_cTypeSet_mention_11 (fun H locs hX hS => ?_)
    obtain ⟨S11, e11, h⟩ := bd_some h
    rw [← e11] at hX
    refine lv_aload_n hx hb d_cTypeSet_mention_14 rfl (lv_at hl 0 rfl) ?_
    refine lv_dup hx hb d_cTypeSet_mention_15 rfl ?_
    refine c_get_15_5 (k := k0) hx hb hts hown hC hX hk0 (hts _ t_114) d_cTypeSet_mention_16 ?_
    refine lv_iload_n hx hb d_cTypeSet_mention_19 rfl (lv_at hl 2 rfl) ?_
    refine lv_ior hx hb d_cTypeSet_mention_20 ?_
    refine c_put_15_5 (k := k0) (v := ((gI S11 k0 5) ||| x2)) hx hb hts hown hC hX hS hk0 (hts _ t_114) d_cTypeSet_mention_21 (fun H locs hX hS => ?_)
    obtain ⟨S21, e21, h⟩ := bd_some h
    rw [← e21] at hX
    refine lv_goto hx hb d_cTypeSet_mention_24 (tgt := 47) (by decide) ?_
    obtain rfl := Option.some.inj h
    exact rt_v hQ hx hb hr hX hS hlk d_cTypeSet_mention_47
abbrev y_cG_hasBit : MethodName := ({ cls := "TypeGuard", name := "hasBit", desc := "(II)Z" } : Jvm.MethodName)
theorem d_cG_hasBit_0 : decode prog_1_method_18_code 0 = .ok (.iload_n 1, 1) := by decide +kernel
theorem d_cG_hasBit_1 : decode prog_1_method_18_code 1 = .ok (.ifCond .lt 21, 3) := by decide +kernel
theorem d_cG_hasBit_4 : decode prog_1_method_18_code 4 = .ok (.iload_n 1, 1) := by decide +kernel
theorem d_cG_hasBit_5 : decode prog_1_method_18_code 5 = .ok (.bipush 32, 2) := by decide +kernel
theorem d_cG_hasBit_7 : decode prog_1_method_18_code 7 = .ok (.if_icmp .ge 15, 3) := by decide +kernel
theorem d_cG_hasBit_10 : decode prog_1_method_18_code 10 = .ok (.iload_n 0, 1) := by decide +kernel
theorem d_cG_hasBit_11 : decode prog_1_method_18_code 11 = .ok (.iload_n 1, 1) := by decide +kernel
theorem d_cG_hasBit_12 : decode prog_1_method_18_code 12 = .ok (.iushr, 1) := by decide +kernel
theorem d_cG_hasBit_13 : decode prog_1_method_18_code 13 = .ok (.iconst 1, 1) := by decide +kernel
theorem d_cG_hasBit_14 : decode prog_1_method_18_code 14 = .ok (.iand, 1) := by decide +kernel
theorem d_cG_hasBit_15 : decode prog_1_method_18_code 15 = .ok (.ifCond .eq 7, 3) := by decide +kernel
theorem d_cG_hasBit_18 : decode prog_1_method_18_code 18 = .ok (.iconst 1, 1) := by decide +kernel
theorem d_cG_hasBit_19 : decode prog_1_method_18_code 19 = .ok (.goto 4, 3) := by decide +kernel
theorem d_cG_hasBit_22 : decode prog_1_method_18_code 22 = .ok (.iconst 0, 1) := by decide +kernel
theorem d_cG_hasBit_23 : decode prog_1_method_18_code 23 = .ok (.ireturn, 1) := by decide +kernel
def cG_hasBit (x0 : Int32) (x1 : Int32) : Option Bool := (if x1 < 0 then some false else (if 32 ≤ x1 then some false else (if ((iU x0 x1) &&& 1) = 0 then some false else some true)))
set_option maxHeartbeats 4000000 in
set_option maxRecDepth 100000 in
theorem M_cG_hasBit {l : Launch} {D : va_G} {cA : Nat → ClassId} {b : Nat} {ad : Nat → Nat} {x0 : Int32} {x1 : Int32} {S : CS} {T : MS × (Nat → Int64)} {rr : Bool}  (h : cG_hasBit x0 x1 = some rr) : Met l y_cG_hasBit (Cond.code y_cG_hasBit prog_1_method_18_code 2 (Option.some Jvm.ClassFile.FieldType.boolean) :: TW) { frames := 0, cells := 0, slots := 0, locals := 0 } (va_Pc [.int x0, .int x1] (Rp D cA b ad (S, T))) (Qr D cA b ad (S, T) (some (.int (bI rr)))) 0 0 (Ab b) := by
  refine Ct_of (by decide) (Nat.le_of_ble_eq_true rfl) ?_
  intro p e R s m args below meth c ls Q H locs hR hQ hx hb hts hown hml hr hlk hC hX hS hl
  have hRf : R.frames = 0 := by rw [hR]
  have hRl : R.locals = 0 := by rw [hR]
  have hown : s.vm.findClass "TypeGuard" = some m.cls := hown
  have hl : lv_has ls 2 [(0, .int x0), (1, .int x1)] := hl
  rw [cG_hasBit] at h
  refine lv_iload_n hx hb d_cG_hasBit_0 rfl (lv_at hl 1 rfl) ?_
  refine lv_if_lt hx hb d_cG_hasBit_1 (tgt := 22) (by decide) (fun hc => ?_) (fun hc => ?_)
  · rw [if_pos hc] at h
    refine lv_iconst (v := 0) hx hb d_cG_hasBit_22 (by decide) ?_
    obtain rfl := Option.some.inj h
    exact rt_zf hQ hx hb hr hX hS hlk d_cG_hasBit_23
  · rw [if_neg hc] at h
    refine lv_iload_n hx hb d_cG_hasBit_4 rfl (lv_at hl 1 rfl) ?_
    refine lv_bipush (v := 32) hx hb d_cG_hasBit_5 (by decide) ?_
    refine lv_icmp_ge hx hb d_cG_hasBit_7 (tgt := 22) (by decide) (fun hc => ?_) (fun hc => ?_)
    · rw [if_pos hc] at h
      refine lv_iconst (v := 0) hx hb d_cG_hasBit_22 (by decide) ?_
      obtain rfl := Option.some.inj h
      exact rt_zf hQ hx hb hr hX hS hlk d_cG_hasBit_23
    · rw [if_neg hc] at h
      refine lv_iload_n hx hb d_cG_hasBit_10 rfl (lv_at hl 0 rfl) ?_
      refine lv_iload_n hx hb d_cG_hasBit_11 rfl (lv_at hl 1 rfl) ?_
      refine lv_iushr (v := (iU x0 x1)) hx hb d_cG_hasBit_12 rfl ?_
      refine lv_iconst (v := 1) hx hb d_cG_hasBit_13 (by decide) ?_
      refine lv_iand hx hb d_cG_hasBit_14 ?_
      refine lv_if_eq hx hb d_cG_hasBit_15 (tgt := 22) (by decide) (fun hc => ?_) (fun hc => ?_)
      · rw [if_pos hc] at h
        refine lv_iconst (v := 0) hx hb d_cG_hasBit_22 (by decide) ?_
        obtain rfl := Option.some.inj h
        exact rt_zf hQ hx hb hr hX hS hlk d_cG_hasBit_23
      · rw [if_neg hc] at h
        refine lv_iconst (v := 1) hx hb d_cG_hasBit_18 (by decide) ?_
        refine lv_goto hx hb d_cG_hasBit_19 (tgt := 23) (by decide) ?_
        obtain rfl := Option.some.inj h
        exact rt_zt hQ hx hb hr hX hS hlk d_cG_hasBit_23
abbrev y_cNames_allBits : MethodName := ({ cls := "TypeGuard$Names", name := "allBits", desc := "()I" } : Jvm.MethodName)
theorem d_cNames_allBits_0 : decode prog_4_method_6_code 0 = .ok (.iconst 1, 1) := by decide +kernel
theorem d_cNames_allBits_1 : decode prog_4_method_6_code 1 = .ok (.aload_n 0, 1) := by decide +kernel
theorem d_cNames_allBits_2 : decode prog_4_method_6_code 2 = .ok (.getfield 15, 3) := by decide +kernel
theorem d_cNames_allBits_5 : decode prog_4_method_6_code 5 = .ok (.ishl, 1) := by decide +kernel
theorem d_cNames_allBits_6 : decode prog_4_method_6_code 6 = .ok (.iconst 1, 1) := by decide +kernel
theorem d_cNames_allBits_7 : decode prog_4_method_6_code 7 = .ok (.isub, 1) := by decide +kernel
theorem d_cNames_allBits_8 : decode prog_4_method_6_code 8 = .ok (.ireturn, 1) := by decide +kernel
def cNames_allBits (k0 : Nat) (S : CS) : Option Int32 := some ((1 <<< ((gI S k0 1) &&& 31)) - 1)
set_option maxHeartbeats 4000000 in
set_option maxRecDepth 100000 in
theorem M_cNames_allBits {l : Launch} {D : va_G} {cA : Nat → ClassId} {b : Nat} {ad : Nat → Nat} {k0 : Nat} {S : CS} {T : MS × (Nat → Int64)} {rr : Int32} (hk0 : kd k0 = 8) (h : cNames_allBits k0 S = some rr) : Met l y_cNames_allBits (Cond.code y_cNames_allBits prog_4_method_6_code 1 (Option.some Jvm.ClassFile.FieldType.int) :: TW) { frames := 0, cells := 0, slots := 0, locals := 0 } (va_Pc [.ref (b + k0)] (Rp D cA b ad (S, T))) (Qr D cA b ad (S, T) (some (.int rr))) 0 0 (Ab b) := by
  refine Ct_of (by decide) (Nat.le_of_ble_eq_true rfl) ?_
  intro p e R s m args below meth c ls Q H locs hR hQ hx hb hts hown hml hr hlk hC hX hS hl
  have hRf : R.frames = 0 := by rw [hR]
  have hRl : R.locals = 0 := by rw [hR]
  have hown : s.vm.findClass "TypeGuard$Names" = some m.cls := hown
  have hl : lv_has ls 1 [(0, .ref (b + k0))] := hl
  rw [cNames_allBits] at h
  refine lv_iconst (v := 1) hx hb d_cNames_allBits_0 (by decide) ?_
  refine lv_aload_n hx hb d_cNames_allBits_1 rfl (lv_at hl 0 rfl) ?_
  refine c_get_8_1 (k := k0) hx hb hts hown hC hX hk0 (hts _ t_79) d_cNames_allBits_2 ?_
  refine lv_ishl hx hb d_cNames_allBits_5 ?_
  refine lv_iconst (v := 1) hx hb d_cNames_allBits_6 (by decide) ?_
  refine lv_isub hx hb d_cNames_allBits_7 ?_
  obtain rfl := Option.some.inj h
  exact rt_i hQ hx hb hr hX hS hlk d_cNames_allBits_8
abbrev y_cNames_add : MethodName := ({ cls := "TypeGuard$Names", name := "add", desc := "(J)Z" } : Jvm.MethodName)
theorem d_cNames_add_0 : decode prog_4_method_2_code 0 = .ok (.aload_n 0, 1) := by decide +kernel
theorem d_cNames_add_1 : decode prog_4_method_2_code 1 = .ok (.getfield 15, 3) := by decide +kernel
theorem d_cNames_add_4 : decode prog_4_method_2_code 4 = .ok (.aload_n 0, 1) := by decide +kernel
theorem d_cNames_add_5 : decode prog_4_method_2_code 5 = .ok (.getfield 9, 3) := by decide +kernel
theorem d_cNames_add_8 : decode prog_4_method_2_code 8 = .ok (.arraylength, 1) := by decide +kernel
theorem d_cNames_add_9 : decode prog_4_method_2_code 9 = .ok (.if_icmp .lt 5, 3) := by decide +kernel
theorem d_cNames_add_12 : decode prog_4_method_2_code 12 = .ok (.iconst 0, 1) := by decide +kernel
theorem d_cNames_add_13 : decode prog_4_method_2_code 13 = .ok (.ireturn, 1) := by decide +kernel
theorem d_cNames_add_14 : decode prog_4_method_2_code 14 = .ok (.aload_n 0, 1) := by decide +kernel
theorem d_cNames_add_15 : decode prog_4_method_2_code 15 = .ok (.getfield 9, 3) := by decide +kernel
theorem d_cNames_add_18 : decode prog_4_method_2_code 18 = .ok (.aload_n 0, 1) := by decide +kernel
theorem d_cNames_add_19 : decode prog_4_method_2_code 19 = .ok (.getfield 15, 3) := by decide +kernel
theorem d_cNames_add_22 : decode prog_4_method_2_code 22 = .ok (.lload_n 1, 1) := by decide +kernel
theorem d_cNames_add_23 : decode prog_4_method_2_code 23 = .ok (.lastore, 1) := by decide +kernel
theorem d_cNames_add_24 : decode prog_4_method_2_code 24 = .ok (.aload_n 0, 1) := by decide +kernel
theorem d_cNames_add_25 : decode prog_4_method_2_code 25 = .ok (.dup, 1) := by decide +kernel
theorem d_cNames_add_26 : decode prog_4_method_2_code 26 = .ok (.getfield 15, 3) := by decide +kernel
theorem d_cNames_add_29 : decode prog_4_method_2_code 29 = .ok (.iconst 1, 1) := by decide +kernel
theorem d_cNames_add_30 : decode prog_4_method_2_code 30 = .ok (.iadd, 1) := by decide +kernel
theorem d_cNames_add_31 : decode prog_4_method_2_code 31 = .ok (.putfield 15, 3) := by decide +kernel
theorem d_cNames_add_34 : decode prog_4_method_2_code 34 = .ok (.iconst 1, 1) := by decide +kernel
theorem d_cNames_add_35 : decode prog_4_method_2_code 35 = .ok (.ireturn, 1) := by decide +kernel
def cNames_add (k0 : Nat) (x1 : Int64) (S : CS) : Option (CS × Bool) := (if (gI S k0 1) < (nI (ln (k0 + 1))) then (if inbd (gI S k0 1) (ln (k0 + 1)) = true then (bd (pL S (k0 + 1) (txN (gI S k0 1)) x1) fun S23 => (bd (pI S23 k0 1 ((gI S23 k0 1) + 1)) fun S31 => some (S31, true))) else none) else some (S, false))
set_option maxHeartbeats 4000000 in
set_option maxRecDepth 100000 in
theorem M_cNames_add {l : Launch} {D : va_G} {cA : Nat → ClassId} {b : Nat} {ad : Nat → Nat} {k0 : Nat} {x1 : Int64} {S : CS} {T : MS × (Nat → Int64)} {rr : (CS × Bool)} (hk0 : kd k0 = 8) (h : cNames_add k0 x1 S = some rr) : Met l y_cNames_add (Cond.code y_cNames_add prog_4_method_2_code 3 (Option.some Jvm.ClassFile.FieldType.boolean) :: TW) { frames := 0, cells := 0, slots := 0, locals := 0 } (va_Pc [.ref (b + k0), .long x1] (Rp D cA b ad (S, T))) (Qr D cA b ad (rr.1, T) (some (.int (bI rr.2)))) 0 0 (Ab b) := by
  refine Ct_of (by decide) (Nat.le_of_ble_eq_true rfl) ?_
  intro p e R s m args below meth c ls Q H locs hR hQ hx hb hts hown hml hr hlk hC hX hS hl
  have hRf : R.frames = 0 := by rw [hR]
  have hRl : R.locals = 0 := by rw [hR]
  have hown : s.vm.findClass "TypeGuard$Names" = some m.cls := hown
  have hl : lv_has ls 3 [(0, .ref (b + k0)), (1, .long x1)] := hl
  rw [cNames_add] at h
  refine lv_aload_n hx hb d_cNames_add_0 rfl (lv_at hl 0 rfl) ?_
  refine c_get_8_1 (k := k0) hx hb hts hown hC hX hk0 (hts _ t_79) d_cNames_add_1 ?_
  refine lv_aload_n hx hb d_cNames_add_4 rfl (lv_at hl 0 rfl) ?_
  refine c_get_8_0 (k := k0) hx hb hts hown hC hX hk0 (hts _ t_78) d_cNames_add_5 ?_
  refine c_len_9 (k := (k0 + 1)) hx hb hC hX (kx_8_1 hk0) d_cNames_add_8 ?_
  refine lv_icmp_lt hx hb d_cNames_add_9 (tgt := 14) (by decide) (fun hc => ?_) (fun hc => ?_)
  · rw [if_pos hc] at h
    refine lv_aload_n hx hb d_cNames_add_14 rfl (lv_at hl 0 rfl) ?_
    refine c_get_8_0 (k := k0) hx hb hts hown hC hX hk0 (hts _ t_78) d_cNames_add_15 ?_
    refine lv_aload_n hx hb d_cNames_add_18 rfl (lv_at hl 0 rfl) ?_
    refine c_get_8_1 (k := k0) hx hb hts hown hC hX hk0 (hts _ t_79) d_cNames_add_19 ?_
    refine lv_lload_n hx hb d_cNames_add_22 rfl (lv_at hl 1 rfl) ?_
    by_cases hg23 : inbd (gI S k0 1) (ln (k0 + 1)) = true
    rotate_left; · rw [if_neg hg23] at h; cases h
    rw [if_pos hg23] at h
    refine c_ast_9 (k := (k0 + 1)) (v := x1) hx hb hC hX hS (kx_8_1 hk0) hg23 d_cNames_add_23 (fun H locs hX hS => ?_)
    obtain ⟨S23, e23, h⟩ := bd_some h
    rw [← e23] at hX
    refine lv_aload_n hx hb d_cNames_add_24 rfl (lv_at hl 0 rfl) ?_
    refine lv_dup hx hb d_cNames_add_25 rfl ?_
    refine c_get_8_1 (k := k0) hx hb hts hown hC hX hk0 (hts _ t_79) d_cNames_add_26 ?_
    refine lv_iconst (v := 1) hx hb d_cNames_add_29 (by decide) ?_
    refine lv_iadd hx hb d_cNames_add_30 ?_
    refine c_put_8_1 (k := k0) (v := ((gI S23 k0 1) + 1)) hx hb hts hown hC hX hS hk0 (hts _ t_79) d_cNames_add_31 (fun H locs hX hS => ?_)
    obtain ⟨S31, e31, h⟩ := bd_some h
    rw [← e31] at hX
    refine lv_iconst (v := 1) hx hb d_cNames_add_34 (by decide) ?_
    obtain rfl := Option.some.inj h
    exact rt_zt hQ hx hb hr hX hS hlk d_cNames_add_35
  · rw [if_neg hc] at h
    refine lv_iconst (v := 0) hx hb d_cNames_add_12 (by decide) ?_
    obtain rfl := Option.some.inj h
    exact rt_zf hQ hx hb hr hX hS hlk d_cNames_add_13
abbrev y_cRule_targetsOf : MethodName := ({ cls := "TypeGuard$Rule", name := "targetsOf", desc := "(I)I" } : Jvm.MethodName)
theorem d_cRule_targetsOf_0 : decode prog_8_method_3_code 0 = .ok (.aload_n 0, 1) := by decide +kernel
theorem d_cRule_targetsOf_1 : decode prog_8_method_3_code 1 = .ok (.getfield 54, 3) := by decide +kernel
theorem d_cRule_targetsOf_4 : decode prog_8_method_3_code 4 = .ok (.iload_n 1, 1) := by decide +kernel
theorem d_cRule_targetsOf_5 : decode prog_8_method_3_code 5 = .ok (.iushr, 1) := by decide +kernel
theorem d_cRule_targetsOf_6 : decode prog_8_method_3_code 6 = .ok (.iconst 1, 1) := by decide +kernel
theorem d_cRule_targetsOf_7 : decode prog_8_method_3_code 7 = .ok (.iand, 1) := by decide +kernel
theorem d_cRule_targetsOf_8 : decode prog_8_method_3_code 8 = .ok (.ifCond .ne 5, 3) := by decide +kernel
theorem d_cRule_targetsOf_11 : decode prog_8_method_3_code 11 = .ok (.iconst 0, 1) := by decide +kernel
theorem d_cRule_targetsOf_12 : decode prog_8_method_3_code 12 = .ok (.ireturn, 1) := by decide +kernel
theorem d_cRule_targetsOf_13 : decode prog_8_method_3_code 13 = .ok (.aload_n 0, 1) := by decide +kernel
theorem d_cRule_targetsOf_14 : decode prog_8_method_3_code 14 = .ok (.getfield 57, 3) := by decide +kernel
theorem d_cRule_targetsOf_17 : decode prog_8_method_3_code 17 = .ok (.ifCond .eq 9, 3) := by decide +kernel
theorem d_cRule_targetsOf_20 : decode prog_8_method_3_code 20 = .ok (.iconst 1, 1) := by decide +kernel
theorem d_cRule_targetsOf_21 : decode prog_8_method_3_code 21 = .ok (.iload_n 1, 1) := by decide +kernel
theorem d_cRule_targetsOf_22 : decode prog_8_method_3_code 22 = .ok (.ishl, 1) := by decide +kernel
theorem d_cRule_targetsOf_23 : decode prog_8_method_3_code 23 = .ok (.goto 7, 3) := by decide +kernel
theorem d_cRule_targetsOf_26 : decode prog_8_method_3_code 26 = .ok (.aload_n 0, 1) := by decide +kernel
theorem d_cRule_targetsOf_27 : decode prog_8_method_3_code 27 = .ok (.getfield 60, 3) := by decide +kernel
theorem d_cRule_targetsOf_30 : decode prog_8_method_3_code 30 = .ok (.ireturn, 1) := by decide +kernel
def cRule_targetsOf (k0 : Nat) (x1 : Int32) (S : CS) : Option Int32 := (if ((iU (gI S k0 7) x1) &&& 1) = 0 then some 0 else (if (gB S k0 6) = true then some (1 <<< (x1 &&& 31)) else some (gI S k0 8)))
set_option maxHeartbeats 4000000 in
set_option maxRecDepth 100000 in
theorem M_cRule_targetsOf {l : Launch} {D : va_G} {cA : Nat → ClassId} {b : Nat} {ad : Nat → Nat} {k0 : Nat} {x1 : Int32} {S : CS} {T : MS × (Nat → Int64)} {rr : Int32} (hk0 : kd k0 = 14) (h : cRule_targetsOf k0 x1 S = some rr) : Met l y_cRule_targetsOf (Cond.code y_cRule_targetsOf prog_8_method_3_code 2 (Option.some Jvm.ClassFile.FieldType.int) :: TW) { frames := 0, cells := 0, slots := 0, locals := 0 } (va_Pc [.ref (b + k0), .int x1] (Rp D cA b ad (S, T))) (Qr D cA b ad (S, T) (some (.int rr))) 0 0 (Ab b) := by
  refine Ct_of (by decide) (Nat.le_of_ble_eq_true rfl) ?_
  intro p e R s m args below meth c ls Q H locs hR hQ hx hb hts hown hml hr hlk hC hX hS hl
  have hRf : R.frames = 0 := by rw [hR]
  have hRl : R.locals = 0 := by rw [hR]
  have hown : s.vm.findClass "TypeGuard$Rule" = some m.cls := hown
  have hl : lv_has ls 2 [(0, .ref (b + k0)), (1, .int x1)] := hl
  rw [cRule_targetsOf] at h
  refine lv_aload_n hx hb d_cRule_targetsOf_0 rfl (lv_at hl 0 rfl) ?_
  refine c_get_14_7 (k := k0) hx hb hts hown hC hX hk0 (hts _ t_147) d_cRule_targetsOf_1 ?_
  refine lv_iload_n hx hb d_cRule_targetsOf_4 rfl (lv_at hl 1 rfl) ?_
  refine lv_iushr (v := (iU (gI S k0 7) x1)) hx hb d_cRule_targetsOf_5 rfl ?_
  refine lv_iconst (v := 1) hx hb d_cRule_targetsOf_6 (by decide) ?_
  refine lv_iand hx hb d_cRule_targetsOf_7 ?_
  refine lv_if_ne hx hb d_cRule_targetsOf_8 (tgt := 13) (by decide) (fun hc => ?_) (fun hc => ?_)
  · rw [if_neg hc] at h
    refine lv_aload_n hx hb d_cRule_targetsOf_13 rfl (lv_at hl 0 rfl) ?_
    refine c_get_14_6 (k := k0) hx hb hts hown hC hX hk0 (hts _ t_145) d_cRule_targetsOf_14 ?_
    refine lz_ifeq hx hb d_cRule_targetsOf_17 (tgt := 26) (by decide) (fun hc => ?_) (fun hc => ?_)
    · rw [if_neg hc] at h
      refine lv_aload_n hx hb d_cRule_targetsOf_26 rfl (lv_at hl 0 rfl) ?_
      refine c_get_14_8 (k := k0) hx hb hts hown hC hX hk0 (hts _ t_149) d_cRule_targetsOf_27 ?_
      obtain rfl := Option.some.inj h
      exact rt_i hQ hx hb hr hX hS hlk d_cRule_targetsOf_30
    · rw [if_pos hc] at h
      refine lv_iconst (v := 1) hx hb d_cRule_targetsOf_20 (by decide) ?_
      refine lv_iload_n hx hb d_cRule_targetsOf_21 rfl (lv_at hl 1 rfl) ?_
      refine lv_ishl hx hb d_cRule_targetsOf_22 ?_
      refine lv_goto hx hb d_cRule_targetsOf_23 (tgt := 30) (by decide) ?_
      obtain rfl := Option.some.inj h
      exact rt_i hQ hx hb hr hX hS hlk d_cRule_targetsOf_30
  · rw [if_pos hc] at h
    refine lv_iconst (v := 0) hx hb d_cRule_targetsOf_11 (by decide) ?_
    obtain rfl := Option.some.inj h
    exact rt_i hQ hx hb hr hX hS hlk d_cRule_targetsOf_12
abbrev y_cRule_sharesTypesWith : MethodName := ({ cls := "TypeGuard$Rule", name := "sharesTypesWith", desc := "(LTypeGuard$Rule;)Z" } : Jvm.MethodName)
theorem d_cRule_sharesTypesWith_0 : decode prog_8_method_5_code 0 = .ok (.iconst 0, 1) := by decide +kernel
theorem d_cRule_sharesTypesWith_1 : decode prog_8_method_5_code 1 = .ok (.istore_n 2, 1) := by decide +kernel
theorem d_cRule_sharesTypesWith_2 : decode prog_8_method_5_code 2 = .ok (.iload_n 2, 1) := by decide +kernel
theorem d_cRule_sharesTypesWith_3 : decode prog_8_method_5_code 3 = .ok (.bipush 12, 2) := by decide +kernel
theorem d_cRule_sharesTypesWith_5 : decode prog_8_method_5_code 5 = .ok (.if_icmp .ge 25, 3) := by decide +kernel
theorem d_cRule_sharesTypesWith_8 : decode prog_8_method_5_code 8 = .ok (.aload_n 0, 1) := by decide +kernel
theorem d_cRule_sharesTypesWith_9 : decode prog_8_method_5_code 9 = .ok (.iload_n 2, 1) := by decide +kernel
theorem d_cRule_sharesTypesWith_10 : decode prog_8_method_5_code 10 = .ok (.invokevirtual 67, 3) := by decide +kernel
theorem d_cRule_sharesTypesWith_13 : decode prog_8_method_5_code 13 = .ok (.aload_n 1, 1) := by decide +kernel
theorem d_cRule_sharesTypesWith_14 : decode prog_8_method_5_code 14 = .ok (.iload_n 2, 1) := by decide +kernel
theorem d_cRule_sharesTypesWith_15 : decode prog_8_method_5_code 15 = .ok (.invokevirtual 67, 3) := by decide +kernel
theorem d_cRule_sharesTypesWith_18 : decode prog_8_method_5_code 18 = .ok (.iand, 1) := by decide +kernel
theorem d_cRule_sharesTypesWith_19 : decode prog_8_method_5_code 19 = .ok (.ifCond .eq 5, 3) := by decide +kernel
theorem d_cRule_sharesTypesWith_22 : decode prog_8_method_5_code 22 = .ok (.iconst 1, 1) := by decide +kernel
theorem d_cRule_sharesTypesWith_23 : decode prog_8_method_5_code 23 = .ok (.ireturn, 1) := by decide +kernel
theorem d_cRule_sharesTypesWith_24 : decode prog_8_method_5_code 24 = .ok (.iinc 2 1, 3) := by decide +kernel
theorem d_cRule_sharesTypesWith_27 : decode prog_8_method_5_code 27 = .ok (.goto (-25), 3) := by decide +kernel
theorem d_cRule_sharesTypesWith_30 : decode prog_8_method_5_code 30 = .ok (.iconst 0, 1) := by decide +kernel
theorem d_cRule_sharesTypesWith_31 : decode prog_8_method_5_code 31 = .ok (.ireturn, 1) := by decide +kernel
def cRule_sharesTypesWith_L2 (v0_2 : Nat) (v1_2 : Nat) (S_2 : CS) : Nat → Int32 → Option Bool
  | 0, _ => none
  | n + 1, v2_2 => (if 12 ≤ v2_2 then some false else ((cRule_targetsOf v0_2 v2_2 S_2).bind fun q10 => ((cRule_targetsOf v1_2 v2_2 S_2).bind fun q15 => (if (q10 &&& q15) = 0 then (bd ((v2_2 + 1)) fun a24 => (cRule_sharesTypesWith_L2 v0_2 v1_2 S_2 n) a24) else some true))))
def cRule_sharesTypesWith (k0 : Nat) (x1 : Nat) (S : CS) : Option Bool := cRule_sharesTypesWith_L2 k0 x1 S 600 0
set_option maxHeartbeats 4000000 in
set_option maxRecDepth 100000 in
theorem M_cRule_sharesTypesWith {l : Launch} {D : va_G} {cA : Nat → ClassId} {b : Nat} {ad : Nat → Nat} {k0 : Nat} {x1 : Nat} {S : CS} {T : MS × (Nat → Int64)} {rr : Bool} (hk0 : kd k0 = 14) (hk1 : kd x1 = 14) (h : cRule_sharesTypesWith k0 x1 S = some rr) : Met l y_cRule_sharesTypesWith (Cond.code y_cRule_sharesTypesWith prog_8_method_5_code 3 (Option.some Jvm.ClassFile.FieldType.boolean) :: TW) { frames := 1, cells := 0, slots := 0, locals := 21 } (va_Pc [.ref (b + k0), .ref (b + x1)] (Rp D cA b ad (S, T))) (Qr D cA b ad (S, T) (some (.int (bI rr)))) 0 0 (Ab b) := by
  refine Ct_of (by decide) (Nat.le_of_ble_eq_true rfl) ?_
  intro p e R s m args below meth c ls Q H locs hR hQ hx hb hts hown hml hr hlk hC hX hS hl
  have hRf : R.frames = 1 := by rw [hR]
  have hRl : R.locals = 21 := by rw [hR]
  have hown : s.vm.findClass "TypeGuard$Rule" = some m.cls := hown
  have hl : lv_has ls 3 [(0, .ref (b + k0)), (1, .ref (b + x1))] := hl
  rw [cRule_sharesTypesWith] at h
  refine lv_iconst (v := 0) hx hb d_cRule_sharesTypesWith_0 (by decide) ?_
  refine lv_istore_n (lv' := [(2, .int 0), (0, .ref (b + k0)), (1, .ref (b + x1))]) hx hb d_cRule_sharesTypesWith_1 rfl hl (by decide) rfl (fun ls hl => ?_)
  have L2 : ∀ (n2 : Nat) (v2_2 : Int32) (H : Heap) (locs : List Loc) (ls : Array Slot), hp D cA b ad (S, T) H → va_S (Ab b) s.heap H locs → lv_has ls 3 [(0, .ref (b + k0)), (1, .ref (b + x1)), (2, .int v2_2)] → cRule_sharesTypesWith_L2 k0 x1 S n2 v2_2 = some rr → W p l e R s m args below meth c H locs 0 0 Q (F0 m 2 ls []) := by
    intro n2; induction n2 with
    | zero => intro v2_2 H locs ls  hX hS hl h; rw [cRule_sharesTypesWith_L2] at h; cases h
    | succ n2 ih2 =>
      intro v2_2 H locs ls  hX hS hl h
      rw [cRule_sharesTypesWith_L2] at h
      refine lv_iload_n hx hb d_cRule_sharesTypesWith_2 rfl (lv_at hl 2 rfl) ?_
      refine lv_bipush (v := 12) hx hb d_cRule_sharesTypesWith_3 (by decide) ?_
      refine lv_icmp_ge hx hb d_cRule_sharesTypesWith_5 (tgt := 30) (by decide) (fun hc => ?_) (fun hc => ?_)
      · rw [if_pos hc] at h
        refine lv_iconst (v := 0) hx hb d_cRule_sharesTypesWith_30 (by decide) ?_
        obtain rfl := Option.some.inj h
        exact rt_zf hQ hx hb hr hX hS hlk d_cRule_sharesTypesWith_31
      · rw [if_neg hc] at h
        refine lv_aload_n hx hb d_cRule_sharesTypesWith_8 rfl (lv_at hl 0 rfl) ?_
        refine lv_iload_n hx hb d_cRule_sharesTypesWith_9 rfl (lv_at hl 2 rfl) ?_
        obtain ⟨q10, hc10, h⟩ := Option.bind_eq_some_iff.mp h
        refine ck_V (As := [.int v2_2]) (rest := []) (st1 := [.int q10]) (M_cRule_targetsOf hk0 hc10) t_744 t_745 t_746 t_747 t_6 hx hb hts hown hC hX hS (hrc_c14 hC hX hk0) hml hl.1 ⟨by rw [hRf]; decide, by rw [hRl]; decide⟩ ⟨rfl, rfl⟩ (n := 1) (by decide +kernel) rfl rfl rfl (lv_room (Nat.le_of_ble_eq_true rfl)) d_cRule_sharesTypesWith_10 (fun H locs hX hS => ?_)
        refine lv_aload_n hx hb d_cRule_sharesTypesWith_13 rfl (lv_at hl 1 rfl) ?_
        refine lv_iload_n hx hb d_cRule_sharesTypesWith_14 rfl (lv_at hl 2 rfl) ?_
        obtain ⟨q15, hc15, h⟩ := Option.bind_eq_some_iff.mp h
        refine ck_V (As := [.int v2_2]) (rest := [.int q10]) (st1 := [.int q15, .int q10]) (M_cRule_targetsOf hk1 hc15) t_744 t_745 t_746 t_747 t_6 hx hb hts hown hC hX hS (hrc_c14 hC hX hk1) hml hl.1 ⟨by rw [hRf]; decide, by rw [hRl]; decide⟩ ⟨rfl, rfl⟩ (n := 1) (by decide +kernel) rfl rfl rfl (lv_room (Nat.le_of_ble_eq_true rfl)) d_cRule_sharesTypesWith_15 (fun H locs hX hS => ?_)
        refine lv_iand hx hb d_cRule_sharesTypesWith_18 ?_
        refine lv_if_eq hx hb d_cRule_sharesTypesWith_19 (tgt := 24) (by decide) (fun hc => ?_) (fun hc => ?_)
        · rw [if_pos hc] at h
          obtain ⟨a24, e24, h⟩ := bd_some h
          refine lv_iinc (v := a24) (lv' := [(2, .int a24), (0, .ref (b + k0)), (1, .ref (b + x1))]) hx hb d_cRule_sharesTypesWith_24 hl (k := 2) rfl e24.symm (by decide) rfl (fun ls hl => ?_)
          refine lv_goto hx hb d_cRule_sharesTypesWith_27 (tgt := 2) (by decide) ?_
          exact ih2 a24 H locs ls  hX hS (lv_sub hl [1, 2, 0] rfl) h
        · rw [if_neg hc] at h
          refine lv_iconst (v := 1) hx hb d_cRule_sharesTypesWith_22 (by decide) ?_
          obtain rfl := Option.some.inj h
          exact rt_zt hQ hx hb hr hX hS hlk d_cRule_sharesTypesWith_23
  exact L2 600 0 H locs ls  hX hS (lv_sub hl [1, 2, 0] rfl) h
abbrev y_cRule_sharesPermissionsWith : MethodName := ({ cls := "TypeGuard$Rule", name := "sharesPermissionsWith", desc := "(LTypeGuard$Rule;)Z" } : Jvm.MethodName)
theorem d_cRule_sharesPermissionsWith_0 : decode prog_8_method_6_code 0 = .ok (.iconst 0, 1) := by decide +kernel
theorem d_cRule_sharesPermissionsWith_1 : decode prog_8_method_6_code 1 = .ok (.istore_n 2, 1) := by decide +kernel
theorem d_cRule_sharesPermissionsWith_2 : decode prog_8_method_6_code 2 = .ok (.iload_n 2, 1) := by decide +kernel
theorem d_cRule_sharesPermissionsWith_3 : decode prog_8_method_6_code 3 = .ok (.iconst 4, 1) := by decide +kernel
theorem d_cRule_sharesPermissionsWith_4 : decode prog_8_method_6_code 4 = .ok (.if_icmp .ge 27, 3) := by decide +kernel
theorem d_cRule_sharesPermissionsWith_7 : decode prog_8_method_6_code 7 = .ok (.aload_n 0, 1) := by decide +kernel
theorem d_cRule_sharesPermissionsWith_8 : decode prog_8_method_6_code 8 = .ok (.getfield 34, 3) := by decide +kernel
theorem d_cRule_sharesPermissionsWith_11 : decode prog_8_method_6_code 11 = .ok (.iload_n 2, 1) := by decide +kernel
theorem d_cRule_sharesPermissionsWith_12 : decode prog_8_method_6_code 12 = .ok (.iaload, 1) := by decide +kernel
theorem d_cRule_sharesPermissionsWith_13 : decode prog_8_method_6_code 13 = .ok (.aload_n 1, 1) := by decide +kernel
theorem d_cRule_sharesPermissionsWith_14 : decode prog_8_method_6_code 14 = .ok (.getfield 34, 3) := by decide +kernel
theorem d_cRule_sharesPermissionsWith_17 : decode prog_8_method_6_code 17 = .ok (.iload_n 2, 1) := by decide +kernel
theorem d_cRule_sharesPermissionsWith_18 : decode prog_8_method_6_code 18 = .ok (.iaload, 1) := by decide +kernel
theorem d_cRule_sharesPermissionsWith_19 : decode prog_8_method_6_code 19 = .ok (.iand, 1) := by decide +kernel
theorem d_cRule_sharesPermissionsWith_20 : decode prog_8_method_6_code 20 = .ok (.ifCond .eq 5, 3) := by decide +kernel
theorem d_cRule_sharesPermissionsWith_23 : decode prog_8_method_6_code 23 = .ok (.iconst 1, 1) := by decide +kernel
theorem d_cRule_sharesPermissionsWith_24 : decode prog_8_method_6_code 24 = .ok (.ireturn, 1) := by decide +kernel
theorem d_cRule_sharesPermissionsWith_25 : decode prog_8_method_6_code 25 = .ok (.iinc 2 1, 3) := by decide +kernel
theorem d_cRule_sharesPermissionsWith_28 : decode prog_8_method_6_code 28 = .ok (.goto (-26), 3) := by decide +kernel
theorem d_cRule_sharesPermissionsWith_31 : decode prog_8_method_6_code 31 = .ok (.iconst 0, 1) := by decide +kernel
theorem d_cRule_sharesPermissionsWith_32 : decode prog_8_method_6_code 32 = .ok (.ireturn, 1) := by decide +kernel
def cRule_sharesPermissionsWith_L2 (v0_2 : Nat) (v1_2 : Nat) (S_2 : CS) : Nat → Int32 → Option Bool
  | 0, _ => none
  | n + 1, v2_2 => (if 4 ≤ v2_2 then some false else (if inbd v2_2 4 = true then (if inbd v2_2 4 = true then (if ((gI S_2 (v0_2 + 3) (txN v2_2)) &&& (gI S_2 (v1_2 + 3) (txN v2_2))) = 0 then (bd ((v2_2 + 1)) fun a25 => (cRule_sharesPermissionsWith_L2 v0_2 v1_2 S_2 n) a25) else some true) else none) else none))
def cRule_sharesPermissionsWith (k0 : Nat) (x1 : Nat) (S : CS) : Option Bool := cRule_sharesPermissionsWith_L2 k0 x1 S 600 0
set_option maxHeartbeats 4000000 in
set_option maxRecDepth 100000 in
theorem M_cRule_sharesPermissionsWith {l : Launch} {D : va_G} {cA : Nat → ClassId} {b : Nat} {ad : Nat → Nat} {k0 : Nat} {x1 : Nat} {S : CS} {T : MS × (Nat → Int64)} {rr : Bool} (hk0 : kd k0 = 14) (hk1 : kd x1 = 14) (h : cRule_sharesPermissionsWith k0 x1 S = some rr) : Met l y_cRule_sharesPermissionsWith (Cond.code y_cRule_sharesPermissionsWith prog_8_method_6_code 3 (Option.some Jvm.ClassFile.FieldType.boolean) :: TW) { frames := 0, cells := 0, slots := 0, locals := 0 } (va_Pc [.ref (b + k0), .ref (b + x1)] (Rp D cA b ad (S, T))) (Qr D cA b ad (S, T) (some (.int (bI rr)))) 0 0 (Ab b) := by
  refine Ct_of (by decide) (Nat.le_of_ble_eq_true rfl) ?_
  intro p e R s m args below meth c ls Q H locs hR hQ hx hb hts hown hml hr hlk hC hX hS hl
  have hRf : R.frames = 0 := by rw [hR]
  have hRl : R.locals = 0 := by rw [hR]
  have hown : s.vm.findClass "TypeGuard$Rule" = some m.cls := hown
  have hl : lv_has ls 3 [(0, .ref (b + k0)), (1, .ref (b + x1))] := hl
  rw [cRule_sharesPermissionsWith] at h
  refine lv_iconst (v := 0) hx hb d_cRule_sharesPermissionsWith_0 (by decide) ?_
  refine lv_istore_n (lv' := [(2, .int 0), (0, .ref (b + k0)), (1, .ref (b + x1))]) hx hb d_cRule_sharesPermissionsWith_1 rfl hl (by decide) rfl (fun ls hl => ?_)
  have L2 : ∀ (n2 : Nat) (v2_2 : Int32) (H : Heap) (locs : List Loc) (ls : Array Slot), hp D cA b ad (S, T) H → va_S (Ab b) s.heap H locs → lv_has ls 3 [(0, .ref (b + k0)), (1, .ref (b + x1)), (2, .int v2_2)] → cRule_sharesPermissionsWith_L2 k0 x1 S n2 v2_2 = some rr → W p l e R s m args below meth c H locs 0 0 Q (F0 m 2 ls []) := by
    intro n2; induction n2 with
    | zero => intro v2_2 H locs ls  hX hS hl h; rw [cRule_sharesPermissionsWith_L2] at h; cases h
    | succ n2 ih2 =>
      intro v2_2 H locs ls  hX hS hl h
      rw [cRule_sharesPermissionsWith_L2] at h
      refine lv_iload_n hx hb d_cRule_sharesPermissionsWith_2 rfl (lv_at hl 2 rfl) ?_
      refine lv_iconst (v := 4) hx hb d_cRule_sharesPermissionsWith_3 (by decide) ?_
      refine lv_icmp_ge hx hb d_cRule_sharesPermissionsWith_4 (tgt := 31) (by decide) (fun hc => ?_) (fun hc => ?_)
      · rw [if_pos hc] at h
        refine lv_iconst (v := 0) hx hb d_cRule_sharesPermissionsWith_31 (by decide) ?_
        obtain rfl := Option.some.inj h
        exact rt_zf hQ hx hb hr hX hS hlk d_cRule_sharesPermissionsWith_32
      · rw [if_neg hc] at h
        refine lv_aload_n hx hb d_cRule_sharesPermissionsWith_7 rfl (lv_at hl 0 rfl) ?_
        refine c_get_14_10 (k := k0) hx hb hts hown hC hX hk0 (hts _ t_154) d_cRule_sharesPermissionsWith_8 ?_
        refine lv_iload_n hx hb d_cRule_sharesPermissionsWith_11 rfl (lv_at hl 2 rfl) ?_
        by_cases hg12 : inbd v2_2 4 = true
        rotate_left; · rw [if_neg hg12] at h; cases h
        rw [if_pos hg12] at h
        refine c_ald_16 (k := (k0 + 3)) hx hb hC hX (kx_14_3 hk0) hg12 d_cRule_sharesPermissionsWith_12 ?_
        refine lv_aload_n hx hb d_cRule_sharesPermissionsWith_13 rfl (lv_at hl 1 rfl) ?_
        refine c_get_14_10 (k := x1) hx hb hts hown hC hX hk1 (hts _ t_154) d_cRule_sharesPermissionsWith_14 ?_
        refine lv_iload_n hx hb d_cRule_sharesPermissionsWith_17 rfl (lv_at hl 2 rfl) ?_
        by_cases hg18 : inbd v2_2 4 = true
        rotate_left; · rw [if_neg hg18] at h; cases h
        rw [if_pos hg18] at h
        refine c_ald_16 (k := (x1 + 3)) hx hb hC hX (kx_14_3 hk1) hg18 d_cRule_sharesPermissionsWith_18 ?_
        refine lv_iand hx hb d_cRule_sharesPermissionsWith_19 ?_
        refine lv_if_eq hx hb d_cRule_sharesPermissionsWith_20 (tgt := 25) (by decide) (fun hc => ?_) (fun hc => ?_)
        · rw [if_pos hc] at h
          obtain ⟨a25, e25, h⟩ := bd_some h
          refine lv_iinc (v := a25) (lv' := [(2, .int a25), (0, .ref (b + k0)), (1, .ref (b + x1))]) hx hb d_cRule_sharesPermissionsWith_25 hl (k := 2) rfl e25.symm (by decide) rfl (fun ls hl => ?_)
          refine lv_goto hx hb d_cRule_sharesPermissionsWith_28 (tgt := 2) (by decide) ?_
          exact ih2 a25 H locs ls  hX hS (lv_sub hl [1, 2, 0] rfl) h
        · rw [if_neg hc] at h
          refine lv_iconst (v := 1) hx hb d_cRule_sharesPermissionsWith_23 (by decide) ?_
          obtain rfl := Option.some.inj h
          exact rt_zt hQ hx hb hr hX hS hlk d_cRule_sharesPermissionsWith_24
  exact L2 600 0 H locs ls  hX hS (lv_sub hl [1, 2, 0] rfl) h
abbrev y_cNames_hasNumber : MethodName := ({ cls := "TypeGuard$Names", name := "hasNumber", desc := "(I)Z" } : Jvm.MethodName)
theorem d_cNames_hasNumber_0 : decode prog_4_method_5_code 0 = .ok (.iload_n 1, 1) := by decide +kernel
theorem d_cNames_hasNumber_1 : decode prog_4_method_5_code 1 = .ok (.ifCond .lt 15, 3) := by decide +kernel
theorem d_cNames_hasNumber_4 : decode prog_4_method_5_code 4 = .ok (.iload_n 1, 1) := by decide +kernel
theorem d_cNames_hasNumber_5 : decode prog_4_method_5_code 5 = .ok (.aload_n 0, 1) := by decide +kernel
theorem d_cNames_hasNumber_6 : decode prog_4_method_5_code 6 = .ok (.getfield 15, 3) := by decide +kernel
theorem d_cNames_hasNumber_9 : decode prog_4_method_5_code 9 = .ok (.if_icmp .ge 7, 3) := by decide +kernel
theorem d_cNames_hasNumber_12 : decode prog_4_method_5_code 12 = .ok (.iconst 1, 1) := by decide +kernel
theorem d_cNames_hasNumber_13 : decode prog_4_method_5_code 13 = .ok (.goto 4, 3) := by decide +kernel
theorem d_cNames_hasNumber_16 : decode prog_4_method_5_code 16 = .ok (.iconst 0, 1) := by decide +kernel
theorem d_cNames_hasNumber_17 : decode prog_4_method_5_code 17 = .ok (.ireturn, 1) := by decide +kernel
def cNames_hasNumber (k0 : Nat) (x1 : Int32) (S : CS) : Option Bool := (if x1 < 0 then some false else (if (gI S k0 1) ≤ x1 then some false else some true))
set_option maxHeartbeats 4000000 in
set_option maxRecDepth 100000 in
theorem M_cNames_hasNumber {l : Launch} {D : va_G} {cA : Nat → ClassId} {b : Nat} {ad : Nat → Nat} {k0 : Nat} {x1 : Int32} {S : CS} {T : MS × (Nat → Int64)} {rr : Bool} (hk0 : kd k0 = 8) (h : cNames_hasNumber k0 x1 S = some rr) : Met l y_cNames_hasNumber (Cond.code y_cNames_hasNumber prog_4_method_5_code 2 (Option.some Jvm.ClassFile.FieldType.boolean) :: TW) { frames := 0, cells := 0, slots := 0, locals := 0 } (va_Pc [.ref (b + k0), .int x1] (Rp D cA b ad (S, T))) (Qr D cA b ad (S, T) (some (.int (bI rr)))) 0 0 (Ab b) := by
  refine Ct_of (by decide) (Nat.le_of_ble_eq_true rfl) ?_
  intro p e R s m args below meth c ls Q H locs hR hQ hx hb hts hown hml hr hlk hC hX hS hl
  have hRf : R.frames = 0 := by rw [hR]
  have hRl : R.locals = 0 := by rw [hR]
  have hown : s.vm.findClass "TypeGuard$Names" = some m.cls := hown
  have hl : lv_has ls 2 [(0, .ref (b + k0)), (1, .int x1)] := hl
  rw [cNames_hasNumber] at h
  refine lv_iload_n hx hb d_cNames_hasNumber_0 rfl (lv_at hl 1 rfl) ?_
  refine lv_if_lt hx hb d_cNames_hasNumber_1 (tgt := 16) (by decide) (fun hc => ?_) (fun hc => ?_)
  · rw [if_pos hc] at h
    refine lv_iconst (v := 0) hx hb d_cNames_hasNumber_16 (by decide) ?_
    obtain rfl := Option.some.inj h
    exact rt_zf hQ hx hb hr hX hS hlk d_cNames_hasNumber_17
  · rw [if_neg hc] at h
    refine lv_iload_n hx hb d_cNames_hasNumber_4 rfl (lv_at hl 1 rfl) ?_
    refine lv_aload_n hx hb d_cNames_hasNumber_5 rfl (lv_at hl 0 rfl) ?_
    refine c_get_8_1 (k := k0) hx hb hts hown hC hX hk0 (hts _ t_79) d_cNames_hasNumber_6 ?_
    refine lv_icmp_ge hx hb d_cNames_hasNumber_9 (tgt := 16) (by decide) (fun hc => ?_) (fun hc => ?_)
    · rw [if_pos hc] at h
      refine lv_iconst (v := 0) hx hb d_cNames_hasNumber_16 (by decide) ?_
      obtain rfl := Option.some.inj h
      exact rt_zf hQ hx hb hr hX hS hlk d_cNames_hasNumber_17
    · rw [if_neg hc] at h
      refine lv_iconst (v := 1) hx hb d_cNames_hasNumber_12 (by decide) ?_
      refine lv_goto hx hb d_cNames_hasNumber_13 (tgt := 17) (by decide) ?_
      obtain rfl := Option.some.inj h
      exact rt_zt hQ hx hb hr hX hS hlk d_cNames_hasNumber_17
abbrev y_cRule_covers : MethodName := ({ cls := "TypeGuard$Rule", name := "covers", desc := "(III)Z" } : Jvm.MethodName)
theorem d_cRule_covers_0 : decode prog_8_method_4_code 0 = .ok (.aload_n 0, 1) := by decide +kernel
theorem d_cRule_covers_1 : decode prog_8_method_4_code 1 = .ok (.getfield 51, 3) := by decide +kernel
theorem d_cRule_covers_4 : decode prog_8_method_4_code 4 = .ok (.iload_n 3, 1) := by decide +kernel
theorem d_cRule_covers_5 : decode prog_8_method_4_code 5 = .ok (.invokestatic 63, 3) := by decide +kernel
theorem d_cRule_covers_8 : decode prog_8_method_4_code 8 = .ok (.ifCond .eq 19, 3) := by decide +kernel
theorem d_cRule_covers_11 : decode prog_8_method_4_code 11 = .ok (.aload_n 0, 1) := by decide +kernel
theorem d_cRule_covers_12 : decode prog_8_method_4_code 12 = .ok (.iload_n 1, 1) := by decide +kernel
theorem d_cRule_covers_13 : decode prog_8_method_4_code 13 = .ok (.invokevirtual 67, 3) := by decide +kernel
theorem d_cRule_covers_16 : decode prog_8_method_4_code 16 = .ok (.iload_n 2, 1) := by decide +kernel
theorem d_cRule_covers_17 : decode prog_8_method_4_code 17 = .ok (.invokestatic 63, 3) := by decide +kernel
theorem d_cRule_covers_20 : decode prog_8_method_4_code 20 = .ok (.ifCond .eq 7, 3) := by decide +kernel
theorem d_cRule_covers_23 : decode prog_8_method_4_code 23 = .ok (.iconst 1, 1) := by decide +kernel
theorem d_cRule_covers_24 : decode prog_8_method_4_code 24 = .ok (.goto 4, 3) := by decide +kernel
theorem d_cRule_covers_27 : decode prog_8_method_4_code 27 = .ok (.iconst 0, 1) := by decide +kernel
theorem d_cRule_covers_28 : decode prog_8_method_4_code 28 = .ok (.ireturn, 1) := by decide +kernel
def cRule_covers (k0 : Nat) (x1 : Int32) (x2 : Int32) (x3 : Int32) (S : CS) : Option Bool := ((cG_hasBit (gI S k0 9) x3).bind fun q5 => (if q5 = true then ((cRule_targetsOf k0 x1 S).bind fun q13 => ((cG_hasBit q13 x2).bind fun q17 => (if q17 = true then some true else some false))) else some false))
set_option maxHeartbeats 4000000 in
set_option maxRecDepth 100000 in
theorem M_cRule_covers {l : Launch} {D : va_G} {cA : Nat → ClassId} {b : Nat} {ad : Nat → Nat} {k0 : Nat} {x1 : Int32} {x2 : Int32} {x3 : Int32} {S : CS} {T : MS × (Nat → Int64)} {rr : Bool} (hk0 : kd k0 = 14) (h : cRule_covers k0 x1 x2 x3 S = some rr) : Met l y_cRule_covers (Cond.code y_cRule_covers prog_8_method_4_code 4 (Option.some Jvm.ClassFile.FieldType.boolean) :: TW) { frames := 1, cells := 0, slots := 0, locals := 21 } (va_Pc [.ref (b + k0), .int x1, .int x2, .int x3] (Rp D cA b ad (S, T))) (Qr D cA b ad (S, T) (some (.int (bI rr)))) 0 0 (Ab b) := by
  refine Ct_of (by decide) (Nat.le_of_ble_eq_true rfl) ?_
  intro p e R s m args below meth c ls Q H locs hR hQ hx hb hts hown hml hr hlk hC hX hS hl
  have hRf : R.frames = 1 := by rw [hR]
  have hRl : R.locals = 21 := by rw [hR]
  have hown : s.vm.findClass "TypeGuard$Rule" = some m.cls := hown
  have hl : lv_has ls 4 [(0, .ref (b + k0)), (1, .int x1), (2, .int x2), (3, .int x3)] := hl
  rw [cRule_covers] at h
  refine lv_aload_n hx hb d_cRule_covers_0 rfl (lv_at hl 0 rfl) ?_
  refine c_get_14_9 (k := k0) hx hb hts hown hC hX hk0 (hts _ t_151) d_cRule_covers_1 ?_
  refine lv_iload_n hx hb d_cRule_covers_4 rfl (lv_at hl 3 rfl) ?_
  obtain ⟨q5, hc5, h⟩ := Option.bind_eq_some_iff.mp h
  refine ck_SN (As := [.int (gI S k0 9), .int x3]) (rest := []) (st1 := [.int (bI q5)]) (M_cG_hasBit  hc5) (hC.2.1 _ t_878) t_651 t_652 t_1 hx hb hts hown hC hX hS  hml hl.1 ⟨by rw [hRf]; decide, by rw [hRl]; decide⟩ ⟨rfl, rfl⟩ (n := 2) (by decide +kernel) rfl rfl rfl (lv_room (Nat.le_of_ble_eq_true rfl)) d_cRule_covers_5 (fun H locs hX hS => ?_)
  refine lz_ifeq hx hb d_cRule_covers_8 (tgt := 27) (by decide) (fun hc => ?_) (fun hc => ?_)
  · rw [if_neg hc] at h
    refine lv_iconst (v := 0) hx hb d_cRule_covers_27 (by decide) ?_
    obtain rfl := Option.some.inj h
    exact rt_zf hQ hx hb hr hX hS hlk d_cRule_covers_28
  · rw [if_pos hc] at h
    refine lv_aload_n hx hb d_cRule_covers_11 rfl (lv_at hl 0 rfl) ?_
    refine lv_iload_n hx hb d_cRule_covers_12 rfl (lv_at hl 1 rfl) ?_
    obtain ⟨q13, hc13, h⟩ := Option.bind_eq_some_iff.mp h
    refine ck_V (As := [.int x1]) (rest := []) (st1 := [.int q13]) (M_cRule_targetsOf hk0 hc13) t_744 t_745 t_746 t_747 t_6 hx hb hts hown hC hX hS (hrc_c14 hC hX hk0) hml hl.1 ⟨by rw [hRf]; decide, by rw [hRl]; decide⟩ ⟨rfl, rfl⟩ (n := 1) (by decide +kernel) rfl rfl rfl (lv_room (Nat.le_of_ble_eq_true rfl)) d_cRule_covers_13 (fun H locs hX hS => ?_)
    refine lv_iload_n hx hb d_cRule_covers_16 rfl (lv_at hl 2 rfl) ?_
    obtain ⟨q17, hc17, h⟩ := Option.bind_eq_some_iff.mp h
    refine ck_SN (As := [.int q13, .int x2]) (rest := []) (st1 := [.int (bI q17)]) (M_cG_hasBit  hc17) (hC.2.1 _ t_878) t_651 t_652 t_1 hx hb hts hown hC hX hS  hml hl.1 ⟨by rw [hRf]; decide, by rw [hRl]; decide⟩ ⟨rfl, rfl⟩ (n := 2) (by decide +kernel) rfl rfl rfl (lv_room (Nat.le_of_ble_eq_true rfl)) d_cRule_covers_17 (fun H locs hX hS => ?_)
    refine lz_ifeq hx hb d_cRule_covers_20 (tgt := 27) (by decide) (fun hc => ?_) (fun hc => ?_)
    · rw [if_neg hc] at h
      refine lv_iconst (v := 0) hx hb d_cRule_covers_27 (by decide) ?_
      obtain rfl := Option.some.inj h
      exact rt_zf hQ hx hb hr hX hS hlk d_cRule_covers_28
    · rw [if_pos hc] at h
      refine lv_iconst (v := 1) hx hb d_cRule_covers_23 (by decide) ?_
      refine lv_goto hx hb d_cRule_covers_24 (tgt := 28) (by decide) ?_
      obtain rfl := Option.some.inj h
      exact rt_zt hQ hx hb hr hX hS hlk d_cRule_covers_28
abbrev y_cNames_nameOf : MethodName := ({ cls := "TypeGuard$Names", name := "nameOf", desc := "(I)J" } : Jvm.MethodName)
theorem d_cNames_nameOf_0 : decode prog_4_method_4_code 0 = .ok (.aload_n 0, 1) := by decide +kernel
theorem d_cNames_nameOf_1 : decode prog_4_method_4_code 1 = .ok (.iload_n 1, 1) := by decide +kernel
theorem d_cNames_nameOf_2 : decode prog_4_method_4_code 2 = .ok (.invokevirtual 19, 3) := by decide +kernel
theorem d_cNames_nameOf_5 : decode prog_4_method_4_code 5 = .ok (.ifCond .eq 12, 3) := by decide +kernel
theorem d_cNames_nameOf_8 : decode prog_4_method_4_code 8 = .ok (.aload_n 0, 1) := by decide +kernel
theorem d_cNames_nameOf_9 : decode prog_4_method_4_code 9 = .ok (.getfield 9, 3) := by decide +kernel
theorem d_cNames_nameOf_12 : decode prog_4_method_4_code 12 = .ok (.iload_n 1, 1) := by decide +kernel
theorem d_cNames_nameOf_13 : decode prog_4_method_4_code 13 = .ok (.laload, 1) := by decide +kernel
theorem d_cNames_nameOf_14 : decode prog_4_method_4_code 14 = .ok (.goto 4, 3) := by decide +kernel
theorem d_cNames_nameOf_17 : decode prog_4_method_4_code 17 = .ok (.lconst 0, 1) := by decide +kernel
theorem d_cNames_nameOf_18 : decode prog_4_method_4_code 18 = .ok (.lreturn, 1) := by decide +kernel
def cNames_nameOf (k0 : Nat) (x1 : Int32) (S : CS) : Option Int64 := ((cNames_hasNumber k0 x1 S).bind fun q2 => (if q2 = true then (if inbd x1 (ln (k0 + 1)) = true then some (gL S (k0 + 1) (txN x1)) else none) else some 0))
set_option maxHeartbeats 4000000 in
set_option maxRecDepth 100000 in
theorem M_cNames_nameOf {l : Launch} {D : va_G} {cA : Nat → ClassId} {b : Nat} {ad : Nat → Nat} {k0 : Nat} {x1 : Int32} {S : CS} {T : MS × (Nat → Int64)} {rr : Int64} (hk0 : kd k0 = 8) (h : cNames_nameOf k0 x1 S = some rr) : Met l y_cNames_nameOf (Cond.code y_cNames_nameOf prog_4_method_4_code 2 (Option.some Jvm.ClassFile.FieldType.long) :: TW) { frames := 1, cells := 0, slots := 0, locals := 21 } (va_Pc [.ref (b + k0), .int x1] (Rp D cA b ad (S, T))) (Qr D cA b ad (S, T) (some (.long rr))) 0 0 (Ab b) := by
  refine Ct_of (by decide) (Nat.le_of_ble_eq_true rfl) ?_
  intro p e R s m args below meth c ls Q H locs hR hQ hx hb hts hown hml hr hlk hC hX hS hl
  have hRf : R.frames = 1 := by rw [hR]
  have hRl : R.locals = 21 := by rw [hR]
  have hown : s.vm.findClass "TypeGuard$Names" = some m.cls := hown
  have hl : lv_has ls 2 [(0, .ref (b + k0)), (1, .int x1)] := hl
  rw [cNames_nameOf] at h
  refine lv_aload_n hx hb d_cNames_nameOf_0 rfl (lv_at hl 0 rfl) ?_
  refine lv_iload_n hx hb d_cNames_nameOf_1 rfl (lv_at hl 1 rfl) ?_
  obtain ⟨q2, hc2, h⟩ := Option.bind_eq_some_iff.mp h
  refine ck_V (As := [.int x1]) (rest := []) (st1 := [.int (bI q2)]) (M_cNames_hasNumber hk0 hc2) t_903 t_836 t_837 t_838 t_5 hx hb hts hown hC hX hS (hrc_c8 hC hX hk0) hml hl.1 ⟨by rw [hRf]; decide, by rw [hRl]; decide⟩ ⟨rfl, rfl⟩ (n := 1) (by decide +kernel) rfl rfl rfl (lv_room (Nat.le_of_ble_eq_true rfl)) d_cNames_nameOf_2 (fun H locs hX hS => ?_)
  refine lz_ifeq hx hb d_cNames_nameOf_5 (tgt := 17) (by decide) (fun hc => ?_) (fun hc => ?_)
  · rw [if_neg hc] at h
    refine lv_lconst (v := 0) hx hb d_cNames_nameOf_17 (by decide) ?_
    obtain rfl := Option.some.inj h
    exact rt_l hQ hx hb hr hX hS hlk d_cNames_nameOf_18
  · rw [if_pos hc] at h
    refine lv_aload_n hx hb d_cNames_nameOf_8 rfl (lv_at hl 0 rfl) ?_
    refine c_get_8_0 (k := k0) hx hb hts hown hC hX hk0 (hts _ t_78) d_cNames_nameOf_9 ?_
    refine lv_iload_n hx hb d_cNames_nameOf_12 rfl (lv_at hl 1 rfl) ?_
    by_cases hg13 : inbd x1 (ln (k0 + 1)) = true
    rotate_left; · rw [if_neg hg13] at h; cases h
    rw [if_pos hg13] at h
    refine c_ald_9 (k := (k0 + 1)) hx hb hC hX (kx_8_1 hk0) hg13 d_cNames_nameOf_13 ?_
    refine lv_goto hx hb d_cNames_nameOf_14 (tgt := 18) (by decide) ?_
    obtain rfl := Option.some.inj h
    exact rt_l hQ hx hb hr hX hS hlk d_cNames_nameOf_18
