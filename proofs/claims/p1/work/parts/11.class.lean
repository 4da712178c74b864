abbrev y_cG_byteOf : MethodName := ({ cls := "TypeGuard", name := "byteOf", desc := "(JI)I" } : Jvm.MethodName)
theorem d_cG_byteOf_0 : decode prog_1_method_17_code 0 = .ok (.lload_n 0, 1) := by decide +kernel
theorem d_cG_byteOf_1 : decode prog_1_method_17_code 1 = .ok (.bipush 8, 2) := by decide +kernel
theorem d_cG_byteOf_3 : decode prog_1_method_17_code 3 = .ok (.iload_n 2, 1) := by decide +kernel
theorem d_cG_byteOf_4 : decode prog_1_method_17_code 4 = .ok (.imul, 1) := by decide +kernel
theorem d_cG_byteOf_5 : decode prog_1_method_17_code 5 = .ok (.lushr, 1) := by decide +kernel
theorem d_cG_byteOf_6 : decode prog_1_method_17_code 6 = .ok (.l2i, 1) := by decide +kernel
theorem d_cG_byteOf_7 : decode prog_1_method_17_code 7 = .ok (.sipush 255, 3) := by decide +kernel
theorem d_cG_byteOf_10 : decode prog_1_method_17_code 10 = .ok (.iand, 1) := by decide +kernel
theorem d_cG_byteOf_11 : decode prog_1_method_17_code 11 = .ok (.ireturn, 1) := by decide +kernel
def cG_byteOf (x0 : Int64) (x2 : Int32) : Option Int32 := some ((((lSu x0 (8 * x2))).toInt32) &&& 255)
set_option maxHeartbeats 4000000 in
set_option maxRecDepth 100000 in
theorem M_cG_byteOf {l : Launch} {D : va_G} {cA : Nat → ClassId} {b : Nat} {ad : Nat → Nat} {x0 : Int64} {x2 : Int32} {S : CS} {T : MS × (Nat → Int64)} {rr : Int32}  (h : cG_byteOf x0 x2 = some rr) : Met l y_cG_byteOf (Cond.code y_cG_byteOf prog_1_method_17_code 3 (Option.some Jvm.ClassFile.FieldType.int) :: TW) { frames := 0, cells := 0, slots := 0, locals := 0 } (va_Pc [.long x0, .int x2] (Rp D cA b ad (S, T))) (Qr D cA b ad (S, T) (some (.int rr))) 0 0 (Ab b) := by
  refine Ct_of (by decide) (Nat.le_of_ble_eq_true rfl) ?_
  intro p e R s m args below meth c ls Q H locs hR hQ hx hb hts hown hml hr hlk hC hX hS hl
  have hRf : R.frames = 0 := by rw [hR]
  have hRl : R.locals = 0 := by rw [hR]
  have hown : s.vm.findClass "TypeGuard" = some m.cls := hown
  have hl : lv_has ls 3 [(0, .long x0), (2, .int x2)] := hl
  rw [cG_byteOf] at h
  refine lv_lload_n hx hb d_cG_byteOf_0 rfl (lv_at hl 0 rfl) ?_
  refine lv_bipush (v := 8) hx hb d_cG_byteOf_1 (by decide) ?_
  refine lv_iload_n hx hb d_cG_byteOf_3 rfl (lv_at hl 1 rfl) ?_
  refine lv_imul hx hb d_cG_byteOf_4 ?_
  refine lv_lushr (v := (lSu x0 (8 * x2))) hx hb d_cG_byteOf_5 rfl ?_
  refine lv_l2i (v := (((lSu x0 (8 * x2))).toInt32)) hx hb d_cG_byteOf_6 rfl ?_
  refine lv_sipush (v := 255) hx hb d_cG_byteOf_7 (by decide) ?_
  refine lv_iand hx hb d_cG_byteOf_10 ?_
  obtain rfl := Option.some.inj h
  exact rt_i hQ hx hb hr hX hS hlk d_cG_byteOf_11
abbrev y_cG_type : MethodName := ({ cls := "TypeGuard", name := "type", desc := "(JI)Z" } : Jvm.MethodName)
theorem d_cG_type_0 : decode prog_1_method_2_code 0 = .ok (.iload_n 3, 1) := by decide +kernel
theorem d_cG_type_1 : decode prog_1_method_2_code 1 = .ok (.iconst 1, 1) := by decide +kernel
theorem d_cG_type_2 : decode prog_1_method_2_code 2 = .ok (.if_icmp .lt 21, 3) := by decide +kernel
theorem d_cG_type_5 : decode prog_1_method_2_code 5 = .ok (.iload_n 3, 1) := by decide +kernel
theorem d_cG_type_6 : decode prog_1_method_2_code 6 = .ok (.bipush 8, 2) := by decide +kernel
theorem d_cG_type_8 : decode prog_1_method_2_code 8 = .ok (.if_icmp .gt 15, 3) := by decide +kernel
theorem d_cG_type_11 : decode prog_1_method_2_code 11 = .ok (.iload_n 3, 1) := by decide +kernel
theorem d_cG_type_12 : decode prog_1_method_2_code 12 = .ok (.sipush 480, 3) := by decide +kernel
theorem d_cG_type_15 : decode prog_1_method_2_code 15 = .ok (.aload_n 0, 1) := by decide +kernel
theorem d_cG_type_16 : decode prog_1_method_2_code 16 = .ok (.getfield 51, 3) := by decide +kernel
theorem d_cG_type_19 : decode prog_1_method_2_code 19 = .ok (.isub, 1) := by decide +kernel
theorem d_cG_type_20 : decode prog_1_method_2_code 20 = .ok (.if_icmp .le 5, 3) := by decide +kernel
theorem d_cG_type_23 : decode prog_1_method_2_code 23 = .ok (.iconst 0, 1) := by decide +kernel
theorem d_cG_type_24 : decode prog_1_method_2_code 24 = .ok (.ireturn, 1) := by decide +kernel
theorem d_cG_type_25 : decode prog_1_method_2_code 25 = .ok (.iconst 0, 1) := by decide +kernel
theorem d_cG_type_26 : decode prog_1_method_2_code 26 = .ok (.istore 4, 2) := by decide +kernel
theorem d_cG_type_28 : decode prog_1_method_2_code 28 = .ok (.iload 4, 2) := by decide +kernel
theorem d_cG_type_30 : decode prog_1_method_2_code 30 = .ok (.iload_n 3, 1) := by decide +kernel
theorem d_cG_type_31 : decode prog_1_method_2_code 31 = .ok (.if_icmp .ge 33, 3) := by decide +kernel
theorem d_cG_type_34 : decode prog_1_method_2_code 34 = .ok (.lload_n 1, 1) := by decide +kernel
theorem d_cG_type_35 : decode prog_1_method_2_code 35 = .ok (.iload 4, 2) := by decide +kernel
theorem d_cG_type_37 : decode prog_1_method_2_code 37 = .ok (.invokestatic 55, 3) := by decide +kernel
theorem d_cG_type_40 : decode prog_1_method_2_code 40 = .ok (.istore 5, 2) := by decide +kernel
theorem d_cG_type_42 : decode prog_1_method_2_code 42 = .ok (.iload 5, 2) := by decide +kernel
theorem d_cG_type_44 : decode prog_1_method_2_code 44 = .ok (.bipush 32, 2) := by decide +kernel
theorem d_cG_type_46 : decode prog_1_method_2_code 46 = .ok (.if_icmp .lt 10, 3) := by decide +kernel
theorem d_cG_type_49 : decode prog_1_method_2_code 49 = .ok (.iload 5, 2) := by decide +kernel
theorem d_cG_type_51 : decode prog_1_method_2_code 51 = .ok (.bipush 126, 2) := by decide +kernel
theorem d_cG_type_53 : decode prog_1_method_2_code 53 = .ok (.if_icmp .le 5, 3) := by decide +kernel
theorem d_cG_type_56 : decode prog_1_method_2_code 56 = .ok (.iconst 0, 1) := by decide +kernel
theorem d_cG_type_57 : decode prog_1_method_2_code 57 = .ok (.ireturn, 1) := by decide +kernel
theorem d_cG_type_58 : decode prog_1_method_2_code 58 = .ok (.iinc 4 1, 3) := by decide +kernel
theorem d_cG_type_61 : decode prog_1_method_2_code 61 = .ok (.goto (-33), 3) := by decide +kernel
theorem d_cG_type_64 : decode prog_1_method_2_code 64 = .ok (.iload_n 3, 1) := by decide +kernel
theorem d_cG_type_65 : decode prog_1_method_2_code 65 = .ok (.iconst 1, 1) := by decide +kernel
theorem d_cG_type_66 : decode prog_1_method_2_code 66 = .ok (.isub, 1) := by decide +kernel
theorem d_cG_type_67 : decode prog_1_method_2_code 67 = .ok (.istore 4, 2) := by decide +kernel
theorem d_cG_type_69 : decode prog_1_method_2_code 69 = .ok (.iload 4, 2) := by decide +kernel
theorem d_cG_type_71 : decode prog_1_method_2_code 71 = .ok (.ifCond .lt 35, 3) := by decide +kernel
theorem d_cG_type_74 : decode prog_1_method_2_code 74 = .ok (.aload_n 0, 1) := by decide +kernel
theorem d_cG_type_75 : decode prog_1_method_2_code 75 = .ok (.getfield 9, 3) := by decide +kernel
theorem d_cG_type_78 : decode prog_1_method_2_code 78 = .ok (.aload_n 0, 1) := by decide +kernel
theorem d_cG_type_79 : decode prog_1_method_2_code 79 = .ok (.getfield 51, 3) := by decide +kernel
theorem d_cG_type_82 : decode prog_1_method_2_code 82 = .ok (.lload_n 1, 1) := by decide +kernel
theorem d_cG_type_83 : decode prog_1_method_2_code 83 = .ok (.iload 4, 2) := by decide +kernel
theorem d_cG_type_85 : decode prog_1_method_2_code 85 = .ok (.invokestatic 55, 3) := by decide +kernel
theorem d_cG_type_88 : decode prog_1_method_2_code 88 = .ok (.i2c, 1) := by decide +kernel
theorem d_cG_type_89 : decode prog_1_method_2_code 89 = .ok (.castore, 1) := by decide +kernel
theorem d_cG_type_90 : decode prog_1_method_2_code 90 = .ok (.aload_n 0, 1) := by decide +kernel
theorem d_cG_type_91 : decode prog_1_method_2_code 91 = .ok (.dup, 1) := by decide +kernel
theorem d_cG_type_92 : decode prog_1_method_2_code 92 = .ok (.getfield 51, 3) := by decide +kernel
theorem d_cG_type_95 : decode prog_1_method_2_code 95 = .ok (.iconst 1, 1) := by decide +kernel
theorem d_cG_type_96 : decode prog_1_method_2_code 96 = .ok (.iadd, 1) := by decide +kernel
theorem d_cG_type_97 : decode prog_1_method_2_code 97 = .ok (.putfield 51, 3) := by decide +kernel
theorem d_cG_type_100 : decode prog_1_method_2_code 100 = .ok (.iinc 4 (-1), 3) := by decide +kernel
theorem d_cG_type_103 : decode prog_1_method_2_code 103 = .ok (.goto (-34), 3) := by decide +kernel
theorem d_cG_type_106 : decode prog_1_method_2_code 106 = .ok (.iconst 1, 1) := by decide +kernel
theorem d_cG_type_107 : decode prog_1_method_2_code 107 = .ok (.ireturn, 1) := by decide +kernel
def cG_type_L69 (v1_69 : Int64) : Nat → Int32 → CS → Option (CS × Bool)
  | 0, _, _ => none
  | n + 1, v4_69, S_69 => (if v4_69 < 0 then some (S_69, true) else ((cG_byteOf v1_69 v4_69).bind fun q85 => (if inbd (gI S_69 0 1) 480 = true then (bd (pI S_69 1 (txN (gI S_69 0 1)) (iC (iC q85))) fun S89 => (bd (pI S89 0 1 ((gI S89 0 1) + 1)) fun S97 => (bd ((v4_69 + (-1))) fun a100 => (cG_type_L69 v1_69 n) a100 S97))) else none)))
def cG_type_L28 (v1_28 : Int64) (v3_28 : Int32) (S_28 : CS) : Nat → Int32 → Option (CS × Bool)
  | 0, _ => none
  | n + 1, v4_28 => (if v3_28 ≤ v4_28 then (bd ((v3_28 - 1)) fun a67 => cG_type_L69 v1_28 600 a67 S_28) else ((cG_byteOf v1_28 v4_28).bind fun q37 => (if q37 < 32 then some (S_28, false) else (if q37 ≤ 126 then (bd ((v4_28 + 1)) fun a58 => (cG_type_L28 v1_28 v3_28 S_28 n) a58) else some (S_28, false)))))
def cG_type (x1 : Int64) (x3 : Int32) (S : CS) : Option (CS × Bool) := (if x3 < 1 then some (S, false) else (if 8 < x3 then some (S, false) else (if x3 ≤ (480 - (gI S 0 1)) then cG_type_L28 x1 x3 S 600 0 else some (S, false))))
set_option maxHeartbeats 4000000 in
set_option maxRecDepth 100000 in
theorem M_cG_type {l : Launch} {D : va_G} {cA : Nat → ClassId} {b : Nat} {ad : Nat → Nat} {x1 : Int64} {x3 : Int32} {S : CS} {T : MS × (Nat → Int64)} {rr : (CS × Bool)}  (h : cG_type x1 x3 S = some rr) : Met l y_cG_type (Cond.code y_cG_type prog_1_method_2_code 6 (Option.some Jvm.ClassFile.FieldType.boolean) :: TW) { frames := 1, cells := 0, slots := 0, locals := 22 } (va_Pc [.ref (b + 0), .long x1, .int x3] (Rp D cA b ad (S, T))) (Qr D cA b ad (rr.1, T) (some (.int (bI rr.2)))) 0 0 (Ab b) := by
  refine Ct_of (by decide) (Nat.le_of_ble_eq_true rfl) ?_
  intro p e R s m args below meth c ls Q H locs hR hQ hx hb hts hown hml hr hlk hC hX hS hl
  have hRf : R.frames = 1 := by rw [hR]
  have hRl : R.locals = 22 := by rw [hR]
  have hown : s.vm.findClass "TypeGuard" = some m.cls := hown
  have hl : lv_has ls 6 [(0, .ref (b + 0)), (1, .long x1), (3, .int x3)] := hl
  rw [cG_type] at h
  refine lv_iload_n hx hb d_cG_type_0 rfl (lv_at hl 2 rfl) ?_
  refine lv_iconst (v := 1) hx hb d_cG_type_1 (by decide) ?_
  refine lv_icmp_lt hx hb d_cG_type_2 (tgt := 23) (by decide) (fun hc => ?_) (fun hc => ?_)
  · rw [if_pos hc] at h
    refine lv_iconst (v := 0) hx hb d_cG_type_23 (by decide) ?_
    obtain rfl := Option.some.inj h
    exact rt_zf hQ hx hb hr hX hS hlk d_cG_type_24
  · rw [if_neg hc] at h
    refine lv_iload_n hx hb d_cG_type_5 rfl (lv_at hl 2 rfl) ?_
    refine lv_bipush (v := 8) hx hb d_cG_type_6 (by decide) ?_
    refine lv_icmp_gt hx hb d_cG_type_8 (tgt := 23) (by decide) (fun hc => ?_) (fun hc => ?_)
    · rw [if_pos hc] at h
      refine lv_iconst (v := 0) hx hb d_cG_type_23 (by decide) ?_
      obtain rfl := Option.some.inj h
      exact rt_zf hQ hx hb hr hX hS hlk d_cG_type_24
    · rw [if_neg hc] at h
      refine lv_iload_n hx hb d_cG_type_11 rfl (lv_at hl 2 rfl) ?_
      refine lv_sipush (v := 480) hx hb d_cG_type_12 (by decide) ?_
      refine lv_aload_n hx hb d_cG_type_15 rfl (lv_at hl 0 rfl) ?_
      refine c_get_0_1 hx hb hts hown hC hX (by rfl) (hts _ t_329) d_cG_type_16 ?_
      refine lv_isub hx hb d_cG_type_19 ?_
      refine lv_icmp_le hx hb d_cG_type_20 (tgt := 25) (by decide) (fun hc => ?_) (fun hc => ?_)
      · rw [if_pos hc] at h
        refine lv_iconst (v := 0) hx hb d_cG_type_25 (by decide) ?_
        refine lv_istore (lv' := [(4, .int 0), (0, .ref (b + 0)), (1, .long x1), (3, .int x3)]) hx hb d_cG_type_26 hl (by decide) rfl (fun ls hl => ?_)
        have L28 : ∀ (n28 : Nat) (v4_28 : Int32) (H : Heap) (locs : List Loc) (ls : Array Slot), hp D cA b ad (S, T) H → va_S (Ab b) s.heap H locs → lv_has ls 6 [(0, .ref (b + 0)), (1, .long x1), (3, .int x3), (4, .int v4_28)] → cG_type_L28 x1 x3 S n28 v4_28 = some rr → W p l e R s m args below meth c H locs 0 0 Q (F0 m 28 ls []) := by
          intro n28; induction n28 with
          | zero => intro v4_28 H locs ls  hX hS hl h; rw [cG_type_L28] at h; cases h
          | succ n28 ih28 =>
            intro v4_28 H locs ls  hX hS hl h
            rw [cG_type_L28] at h
            refine lv_iload hx hb d_cG_type_28 (lv_at hl 3 rfl) ?_
            refine lv_iload_n hx hb d_cG_type_30 rfl (lv_at hl 2 rfl) ?_
            refine lv_icmp_ge hx hb d_cG_type_31 (tgt := 64) (by decide) (fun hc => ?_) (fun hc => ?_)
            · rw [if_pos hc] at h
              refine lv_iload_n hx hb d_cG_type_64 rfl (lv_at hl 2 rfl) ?_
              refine lv_iconst (v := 1) hx hb d_cG_type_65 (by decide) ?_
              refine lv_isub hx hb d_cG_type_66 ?_
              obtain ⟨a67, e67, h⟩ := bd_some h
              refine lt_I e67 ?_
              refine lv_istore (lv' := [(4, .int a67), (0, .ref (b + 0)), (1, .long x1), (3, .int x3)]) hx hb d_cG_type_67 hl (by decide) rfl (fun ls hl => ?_)
              have L69 : ∀ (n69 : Nat) (v4_69 : Int32) (S_69 : CS) (H : Heap) (locs : List Loc) (ls : Array Slot), hp D cA b ad (S_69, T) H → va_S (Ab b) s.heap H locs → lv_has ls 6 [(0, .ref (b + 0)), (1, .long x1), (4, .int v4_69)] → cG_type_L69 x1 n69 v4_69 S_69 = some rr → W p l e R s m args below meth c H locs 0 0 Q (F0 m 69 ls []) := by
                intro n69; induction n69 with
                | zero => intro v4_69 S_69 H locs ls  hX hS hl h; rw [cG_type_L69] at h; cases h
                | succ n69 ih69 =>
                  intro v4_69 S_69 H locs ls  hX hS hl h
                  rw [cG_type_L69] at h
                  refine lv_iload hx hb d_cG_type_69 (lv_at hl 2 rfl) ?_
                  refine lv_if_lt hx hb d_cG_type_71 (tgt := 106) (by decide) (fun hc => ?_) (fun hc => ?_)
                  · rw [if_pos hc] at h
                    refine lv_iconst (v := 1) hx hb d_cG_type_106 (by decide) ?_
                    obtain rfl := Option.some.inj h
                    exact rt_zt hQ hx hb hr hX hS hlk d_cG_type_107
                  · rw [if_neg hc] at h
                    refine lv_aload_n hx hb d_cG_type_74 rfl (lv_at hl 0 rfl) ?_
                    refine c_get_0_0 hx hb hts hown hC hX (by rfl) (hts _ t_328) d_cG_type_75 ?_
                    refine lv_aload_n hx hb d_cG_type_78 rfl (lv_at hl 0 rfl) ?_
                    refine c_get_0_1 hx hb hts hown hC hX (by rfl) (hts _ t_329) d_cG_type_79 ?_
                    refine lv_lload_n hx hb d_cG_type_82 rfl (lv_at hl 1 rfl) ?_
                    refine lv_iload hx hb d_cG_type_83 (lv_at hl 2 rfl) ?_
                    obtain ⟨q85, hc85, h⟩ := Option.bind_eq_some_iff.mp h
                    refine ck_S (As := [.long x1, .int v4_69]) (rest := [.int (gI S_69 0 1), .ref (b + 1)]) (st1 := [.int q85, .int (gI S_69 0 1), .ref (b + 1)]) (M_cG_byteOf  hc85) t_363 t_364 t_365 t_1 hx hb hts hown hC hX hS  hml hl.1 ⟨by rw [hRf]; decide, by rw [hRl]; decide⟩ ⟨rfl, rfl⟩ (n := 2) (by decide +kernel) rfl rfl rfl (lv_room (Nat.le_of_ble_eq_true rfl)) d_cG_type_85 (fun H locs hX hS => ?_)
                    refine lv_i2c (v := (iC q85)) hx hb d_cG_type_88 rfl ?_
                    by_cases hg89 : inbd (gI S_69 0 1) 480 = true
                    rotate_left; · rw [if_neg hg89] at h; cases h
                    rw [if_pos hg89] at h
                    refine c_ast_1 (k := 1) (v := (iC q85)) hx hb hC hX hS (by rfl) hg89 d_cG_type_89 (fun H locs hX hS => ?_)
                    obtain ⟨S89, e89, h⟩ := bd_some h
                    rw [← e89] at hX
                    refine lv_aload_n hx hb d_cG_type_90 rfl (lv_at hl 0 rfl) ?_
                    refine lv_dup hx hb d_cG_type_91 rfl ?_
                    refine c_get_0_1 hx hb hts hown hC hX (by rfl) (hts _ t_329) d_cG_type_92 ?_
                    refine lv_iconst (v := 1) hx hb d_cG_type_95 (by decide) ?_
                    refine lv_iadd hx hb d_cG_type_96 ?_
                    refine c_put_0_1 (v := ((gI S89 0 1) + 1)) hx hb hts hown hC hX hS (by rfl) (hts _ t_329) d_cG_type_97 (fun H locs hX hS => ?_)
                    obtain ⟨S97, e97, h⟩ := bd_some h
                    rw [← e97] at hX
                    obtain ⟨a100, e100, h⟩ := bd_some h
                    refine lv_iinc (v := a100) (lv' := [(4, .int a100), (0, .ref (b + 0)), (1, .long x1)]) hx hb d_cG_type_100 hl (k := 2) rfl e100.symm (by decide) rfl (fun ls hl => ?_)
                    refine lv_goto hx hb d_cG_type_103 (tgt := 69) (by decide) ?_
                    exact ih69 a100 S97 H locs ls  hX hS (lv_sub hl [1, 2, 0] rfl) h
              exact L69 600 a67 S H locs ls  hX hS (lv_sub hl [1, 2, 0] rfl) h
            · rw [if_neg hc] at h
              refine lv_lload_n hx hb d_cG_type_34 rfl (lv_at hl 1 rfl) ?_
              refine lv_iload hx hb d_cG_type_35 (lv_at hl 3 rfl) ?_
              obtain ⟨q37, hc37, h⟩ := Option.bind_eq_some_iff.mp h
              refine ck_S (As := [.long x1, .int v4_28]) (rest := []) (st1 := [.int q37]) (M_cG_byteOf  hc37) t_363 t_364 t_365 t_1 hx hb hts hown hC hX hS  hml hl.1 ⟨by rw [hRf]; decide, by rw [hRl]; decide⟩ ⟨rfl, rfl⟩ (n := 2) (by decide +kernel) rfl rfl rfl (lv_room (Nat.le_of_ble_eq_true rfl)) d_cG_type_37 (fun H locs hX hS => ?_)
              refine lv_istore (lv' := [(5, .int q37), (0, .ref (b + 0)), (1, .long x1), (3, .int x3), (4, .int v4_28)]) hx hb d_cG_type_40 hl (by decide) rfl (fun ls hl => ?_)
              refine lv_iload hx hb d_cG_type_42 (lv_at hl 0 rfl) ?_
              refine lv_bipush (v := 32) hx hb d_cG_type_44 (by decide) ?_
              refine lv_icmp_lt hx hb d_cG_type_46 (tgt := 56) (by decide) (fun hc => ?_) (fun hc => ?_)
              · rw [if_pos hc] at h
                refine lv_iconst (v := 0) hx hb d_cG_type_56 (by decide) ?_
                obtain rfl := Option.some.inj h
                exact rt_zf hQ hx hb hr hX hS hlk d_cG_type_57
              · rw [if_neg hc] at h
                refine lv_iload hx hb d_cG_type_49 (lv_at hl 0 rfl) ?_
                refine lv_bipush (v := 126) hx hb d_cG_type_51 (by decide) ?_
                refine lv_icmp_le hx hb d_cG_type_53 (tgt := 58) (by decide) (fun hc => ?_) (fun hc => ?_)
                · rw [if_pos hc] at h
                  obtain ⟨a58, e58, h⟩ := bd_some h
                  refine lv_iinc (v := a58) (lv' := [(4, .int a58), (5, .int q37), (0, .ref (b + 0)), (1, .long x1), (3, .int x3)]) hx hb d_cG_type_58 hl (k := 4) rfl e58.symm (by decide) rfl (fun ls hl => ?_)
                  refine lv_goto hx hb d_cG_type_61 (tgt := 28) (by decide) ?_
                  exact ih28 a58 H locs ls  hX hS (lv_sub hl [2, 3, 4, 0] rfl) h
                · rw [if_neg hc] at h
                  refine lv_iconst (v := 0) hx hb d_cG_type_56 (by decide) ?_
                  obtain rfl := Option.some.inj h
                  exact rt_zf hQ hx hb hr hX hS hlk d_cG_type_57
        exact L28 600 0 H locs ls  hX hS (lv_sub hl [1, 2, 3, 0] rfl) h
      · rw [if_neg hc] at h
        refine lv_iconst (v := 0) hx hb d_cG_type_23 (by decide) ?_
        obtain rfl := Option.some.inj h
        exact rt_zf hQ hx hb hr hX hS hlk d_cG_type_24
abbrev y_cPolicy_clear : MethodName := ({ cls := "TypeGuard$Policy", name := "clear", desc := "()V" } : Jvm.MethodName)
theorem d_cPolicy_clear_0 : decode prog_6_method_2_code 0 = .ok (.aload_n 0, 1) := by decide +kernel
theorem d_cPolicy_clear_1 : decode prog_6_method_2_code 1 = .ok (.getfield 14, 3) := by decide +kernel
theorem d_cPolicy_clear_4 : decode prog_6_method_2_code 4 = .ok (.iconst 0, 1) := by decide +kernel
theorem d_cPolicy_clear_5 : decode prog_6_method_2_code 5 = .ok (.putfield 48, 3) := by decide +kernel
theorem d_cPolicy_clear_8 : decode prog_6_method_2_code 8 = .ok (.aload_n 0, 1) := by decide +kernel
theorem d_cPolicy_clear_9 : decode prog_6_method_2_code 9 = .ok (.getfield 20, 3) := by decide +kernel
theorem d_cPolicy_clear_12 : decode prog_6_method_2_code 12 = .ok (.iconst 0, 1) := by decide +kernel
theorem d_cPolicy_clear_13 : decode prog_6_method_2_code 13 = .ok (.putfield 48, 3) := by decide +kernel
theorem d_cPolicy_clear_16 : decode prog_6_method_2_code 16 = .ok (.aload_n 0, 1) := by decide +kernel
theorem d_cPolicy_clear_17 : decode prog_6_method_2_code 17 = .ok (.getfield 23, 3) := by decide +kernel
theorem d_cPolicy_clear_20 : decode prog_6_method_2_code 20 = .ok (.iconst 0, 1) := by decide +kernel
theorem d_cPolicy_clear_21 : decode prog_6_method_2_code 21 = .ok (.putfield 48, 3) := by decide +kernel
theorem d_cPolicy_clear_24 : decode prog_6_method_2_code 24 = .ok (.aload_n 0, 1) := by decide +kernel
theorem d_cPolicy_clear_25 : decode prog_6_method_2_code 25 = .ok (.getfield 26, 3) := by decide +kernel
theorem d_cPolicy_clear_28 : decode prog_6_method_2_code 28 = .ok (.iconst 0, 1) := by decide +kernel
theorem d_cPolicy_clear_29 : decode prog_6_method_2_code 29 = .ok (.putfield 48, 3) := by decide +kernel
theorem d_cPolicy_clear_32 : decode prog_6_method_2_code 32 = .ok (.aload_n 0, 1) := by decide +kernel
theorem d_cPolicy_clear_33 : decode prog_6_method_2_code 33 = .ok (.iconst 0, 1) := by decide +kernel
theorem d_cPolicy_clear_34 : decode prog_6_method_2_code 34 = .ok (.putfield 52, 3) := by decide +kernel
theorem d_cPolicy_clear_37 : decode prog_6_method_2_code 37 = .ok (.iconst 0, 1) := by decide +kernel
theorem d_cPolicy_clear_38 : decode prog_6_method_2_code 38 = .ok (.istore_n 1, 1) := by decide +kernel
theorem d_cPolicy_clear_39 : decode prog_6_method_2_code 39 = .ok (.iload_n 1, 1) := by decide +kernel
theorem d_cPolicy_clear_40 : decode prog_6_method_2_code 40 = .ok (.iconst 4, 1) := by decide +kernel
theorem d_cPolicy_clear_41 : decode prog_6_method_2_code 41 = .ok (.if_icmp .ge 19, 3) := by decide +kernel
theorem d_cPolicy_clear_44 : decode prog_6_method_2_code 44 = .ok (.aload_n 0, 1) := by decide +kernel
theorem d_cPolicy_clear_45 : decode prog_6_method_2_code 45 = .ok (.getfield 29, 3) := by decide +kernel
theorem d_cPolicy_clear_48 : decode prog_6_method_2_code 48 = .ok (.iload_n 1, 1) := by decide +kernel
theorem d_cPolicy_clear_49 : decode prog_6_method_2_code 49 = .ok (.aaload, 1) := by decide +kernel
theorem d_cPolicy_clear_50 : decode prog_6_method_2_code 50 = .ok (.iconst 0, 1) := by decide +kernel
theorem d_cPolicy_clear_51 : decode prog_6_method_2_code 51 = .ok (.putfield 48, 3) := by decide +kernel
theorem d_cPolicy_clear_54 : decode prog_6_method_2_code 54 = .ok (.iinc 1 1, 3) := by decide +kernel
theorem d_cPolicy_clear_57 : decode prog_6_method_2_code 57 = .ok (.goto (-18), 3) := by decide +kernel
theorem d_cPolicy_clear_60 : decode prog_6_method_2_code 60 = .ok (.iconst 0, 1) := by decide +kernel
theorem d_cPolicy_clear_61 : decode prog_6_method_2_code 61 = .ok (.istore_n 1, 1) := by decide +kernel
theorem d_cPolicy_clear_62 : decode prog_6_method_2_code 62 = .ok (.iload_n 1, 1) := by decide +kernel
theorem d_cPolicy_clear_63 : decode prog_6_method_2_code 63 = .ok (.iconst 4, 1) := by decide +kernel
theorem d_cPolicy_clear_64 : decode prog_6_method_2_code 64 = .ok (.if_icmp .ge 16, 3) := by decide +kernel
theorem d_cPolicy_clear_67 : decode prog_6_method_2_code 67 = .ok (.aload_n 0, 1) := by decide +kernel
theorem d_cPolicy_clear_68 : decode prog_6_method_2_code 68 = .ok (.getfield 33, 3) := by decide +kernel
theorem d_cPolicy_clear_71 : decode prog_6_method_2_code 71 = .ok (.iload_n 1, 1) := by decide +kernel
theorem d_cPolicy_clear_72 : decode prog_6_method_2_code 72 = .ok (.iconst 0, 1) := by decide +kernel
theorem d_cPolicy_clear_73 : decode prog_6_method_2_code 73 = .ok (.iastore, 1) := by decide +kernel
theorem d_cPolicy_clear_74 : decode prog_6_method_2_code 74 = .ok (.iinc 1 1, 3) := by decide +kernel
theorem d_cPolicy_clear_77 : decode prog_6_method_2_code 77 = .ok (.goto (-15), 3) := by decide +kernel
theorem d_cPolicy_clear_80 : decode prog_6_method_2_code 80 = .ok (.return_, 1) := by decide +kernel
def cPolicy_clear_L62 (v0_62 : Nat) : Nat → Int32 → CS → Option CS
  | 0, _, _ => none
  | n + 1, v1_62, S_62 => (if 4 ≤ v1_62 then some S_62 else (if inbd v1_62 4 = true then (bd (pI S_62 (v0_62 + 10) (txN v1_62) 0) fun S73 => (bd ((v1_62 + 1)) fun a74 => (cPolicy_clear_L62 v0_62 n) a74 S73)) else none))
def cPolicy_clear_L39 (v0_39 : Nat) : Nat → Int32 → CS → Option CS
  | 0, _, _ => none
  | n + 1, v1_39, S_39 => (if 4 ≤ v1_39 then cPolicy_clear_L62 v0_39 600 0 S_39 else (if inbd v1_39 4 = true then (bd (((v0_39 + 9) + (4 + 2 * txN v1_39))) fun a49 => (bd (pI S_39 a49 1 0) fun S51 => (bd ((v1_39 + 1)) fun a54 => (cPolicy_clear_L39 v0_39 n) a54 S51))) else none))
def cPolicy_clear (k0 : Nat) (S : CS) : Option CS := (bd (pI S (k0 + 1) 1 0) fun S5 => (bd (pI S5 (k0 + 3) 1 0) fun S13 => (bd (pI S13 (k0 + 5) 1 0) fun S21 => (bd (pI S21 (k0 + 7) 1 0) fun S29 => (bd (pI S29 k0 8 0) fun S34 => cPolicy_clear_L39 k0 600 0 S34)))))
set_option maxHeartbeats 4000000 in
set_option maxRecDepth 100000 in
theorem M_cPolicy_clear {l : Launch} {D : va_G} {cA : Nat → ClassId} {b : Nat} {ad : Nat → Nat} {k0 : Nat} {S : CS} {T : MS × (Nat → Int64)} {rr : CS} (hk0 : kd k0 = 7) (h : cPolicy_clear k0 S = some rr) : Met l y_cPolicy_clear (Cond.code y_cPolicy_clear prog_6_method_2_code 2 (Option.none : Option Jvm.ClassFile.FieldType) :: TW) { frames := 0, cells := 0, slots := 0, locals := 0 } (va_Pc [.ref (b + k0)] (Rp D cA b ad (S, T))) (Qr D cA b ad (rr, T) none) 0 0 (Ab b) := by
  refine Ct_of (by decide) (Nat.le_of_ble_eq_true rfl) ?_
  intro p e R s m args below meth c ls Q H locs hR hQ hx hb hts hown hml hr hlk hC hX hS hl
  have hRf : R.frames = 0 := by rw [hR]
  have hRl : R.locals = 0 := by rw [hR]
  have hown : s.vm.findClass "TypeGuard$Policy" = some m.cls := hown
  have hl : lv_has ls 2 [(0, .ref (b + k0))] := hl
  rw [cPolicy_clear] at h
  refine lv_aload_n hx hb d_cPolicy_clear_0 rfl (lv_at hl 0 rfl) ?_
  refine c_get_7_0 (k := k0) hx hb hts hown hC hX hk0 (hts _ t_185) d_cPolicy_clear_1 ?_
  refine lv_iconst (v := 0) hx hb d_cPolicy_clear_4 (by decide) ?_
  refine c_put_8_1N (k := (k0 + 1)) (v := 0) hx hb hts hown hC hX hS (kx_7_1 hk0) (va_Nw.use rfl (hC.2.1 _ t_80)) d_cPolicy_clear_5 (fun H locs hX hS => ?_)
  obtain ⟨S5, e5, h⟩ := bd_some h
  rw [← e5] at hX
  refine lv_aload_n hx hb d_cPolicy_clear_8 rfl (lv_at hl 0 rfl) ?_
  refine c_get_7_1 (k := k0) hx hb hts hown hC hX hk0 (hts _ t_188) d_cPolicy_clear_9 ?_
  refine lv_iconst (v := 0) hx hb d_cPolicy_clear_12 (by decide) ?_
  refine c_put_8_1N (k := (k0 + 3)) (v := 0) hx hb hts hown hC hX hS (kx_7_3 hk0) (va_Nw.use rfl (hC.2.1 _ t_80)) d_cPolicy_clear_13 (fun H locs hX hS => ?_)
  obtain ⟨S13, e13, h⟩ := bd_some h
  rw [← e13] at hX
  refine lv_aload_n hx hb d_cPolicy_clear_16 rfl (lv_at hl 0 rfl) ?_
  refine c_get_7_2 (k := k0) hx hb hts hown hC hX hk0 (hts _ t_190) d_cPolicy_clear_17 ?_
  refine lv_iconst (v := 0) hx hb d_cPolicy_clear_20 (by decide) ?_
  refine c_put_8_1N (k := (k0 + 5)) (v := 0) hx hb hts hown hC hX hS (kx_7_5 hk0) (va_Nw.use rfl (hC.2.1 _ t_80)) d_cPolicy_clear_21 (fun H locs hX hS => ?_)
  obtain ⟨S21, e21, h⟩ := bd_some h
  rw [← e21] at hX
  refine lv_aload_n hx hb d_cPolicy_clear_24 rfl (lv_at hl 0 rfl) ?_
  refine c_get_7_3 (k := k0) hx hb hts hown hC hX hk0 (hts _ t_193) d_cPolicy_clear_25 ?_
  refine lv_iconst (v := 0) hx hb d_cPolicy_clear_28 (by decide) ?_
  refine c_put_8_1N (k := (k0 + 7)) (v := 0) hx hb hts hown hC hX hS (kx_7_7 hk0) (va_Nw.use rfl (hC.2.1 _ t_80)) d_cPolicy_clear_29 (fun H locs hX hS => ?_)
  obtain ⟨S29, e29, h⟩ := bd_some h
  rw [← e29] at hX
  refine lv_aload_n hx hb d_cPolicy_clear_32 rfl (lv_at hl 0 rfl) ?_
  refine lv_iconst (v := 0) hx hb d_cPolicy_clear_33 (by decide) ?_
  refine c_put_7_8 (k := k0) (v := 0) hx hb hts hown hC hX hS hk0 (hts _ t_205) d_cPolicy_clear_34 (fun H locs hX hS => ?_)
  obtain ⟨S34, e34, h⟩ := bd_some h
  rw [← e34] at hX
  refine lv_iconst (v := 0) hx hb d_cPolicy_clear_37 (by decide) ?_
  refine lv_istore_n (lv' := [(1, .int 0), (0, .ref (b + k0))]) hx hb d_cPolicy_clear_38 rfl hl (by decide) rfl (fun ls hl => ?_)
  have L39 : ∀ (n39 : Nat) (v1_39 : Int32) (S_39 : CS) (H : Heap) (locs : List Loc) (ls : Array Slot), hp D cA b ad (S_39, T) H → va_S (Ab b) s.heap H locs → lv_has ls 2 [(0, .ref (b + k0)), (1, .int v1_39)] → cPolicy_clear_L39 k0 n39 v1_39 S_39 = some rr → W p l e R s m args below meth c H locs 0 0 Q (F0 m 39 ls []) := by
    intro n39; induction n39 with
    | zero => intro v1_39 S_39 H locs ls  hX hS hl h; rw [cPolicy_clear_L39] at h; cases h
    | succ n39 ih39 =>
      intro v1_39 S_39 H locs ls  hX hS hl h
      rw [cPolicy_clear_L39] at h
      refine lv_iload_n hx hb d_cPolicy_clear_39 rfl (lv_at hl 1 rfl) ?_
      refine lv_iconst (v := 4) hx hb d_cPolicy_clear_40 (by decide) ?_
      refine lv_icmp_ge hx hb d_cPolicy_clear_41 (tgt := 60) (by decide) (fun hc => ?_) (fun hc => ?_)
      · rw [if_pos hc] at h
        refine lv_iconst (v := 0) hx hb d_cPolicy_clear_60 (by decide) ?_
        refine lv_istore_n (lv' := [(1, .int 0), (0, .ref (b + k0))]) hx hb d_cPolicy_clear_61 rfl hl (by decide) rfl (fun ls hl => ?_)
        have L62 : ∀ (n62 : Nat) (v1_62 : Int32) (S_62 : CS) (H : Heap) (locs : List Loc) (ls : Array Slot), hp D cA b ad (S_62, T) H → va_S (Ab b) s.heap H locs → lv_has ls 2 [(0, .ref (b + k0)), (1, .int v1_62)] → cPolicy_clear_L62 k0 n62 v1_62 S_62 = some rr → W p l e R s m args below meth c H locs 0 0 Q (F0 m 62 ls []) := by
          intro n62; induction n62 with
          | zero => intro v1_62 S_62 H locs ls  hX hS hl h; rw [cPolicy_clear_L62] at h; cases h
          | succ n62 ih62 =>
            intro v1_62 S_62 H locs ls  hX hS hl h
            rw [cPolicy_clear_L62] at h
            refine lv_iload_n hx hb d_cPolicy_clear_62 rfl (lv_at hl 1 rfl) ?_
            refine lv_iconst (v := 4) hx hb d_cPolicy_clear_63 (by decide) ?_
            refine lv_icmp_ge hx hb d_cPolicy_clear_64 (tgt := 80) (by decide) (fun hc => ?_) (fun hc => ?_)
            · rw [if_pos hc] at h
              obtain rfl := Option.some.inj h
              exact rt_v hQ hx hb hr hX hS hlk d_cPolicy_clear_80
            · rw [if_neg hc] at h
              refine lv_aload_n hx hb d_cPolicy_clear_67 rfl (lv_at hl 0 rfl) ?_
              refine c_get_7_5 (k := k0) hx hb hts hown hC hX hk0 (hts _ t_198) d_cPolicy_clear_68 ?_
              refine lv_iload_n hx hb d_cPolicy_clear_71 rfl (lv_at hl 1 rfl) ?_
              refine lv_iconst (v := 0) hx hb d_cPolicy_clear_72 (by decide) ?_
              by_cases hg73 : inbd v1_62 4 = true
              rotate_left; · rw [if_neg hg73] at h; cases h
              rw [if_pos hg73] at h
              refine c_ast_11 (k := (k0 + 10)) (v := 0) hx hb hC hX hS (kx_7_10 hk0) hg73 d_cPolicy_clear_73 (fun H locs hX hS => ?_)
              obtain ⟨S73, e73, h⟩ := bd_some h
              rw [← e73] at hX
              obtain ⟨a74, e74, h⟩ := bd_some h
              refine lv_iinc (v := a74) (lv' := [(1, .int a74), (0, .ref (b + k0))]) hx hb d_cPolicy_clear_74 hl (k := 1) rfl e74.symm (by decide) rfl (fun ls hl => ?_)
              refine lv_goto hx hb d_cPolicy_clear_77 (tgt := 62) (by decide) ?_
              exact ih62 a74 S73 H locs ls  hX hS (lv_sub hl [1, 0] rfl) h
        exact L62 600 0 S_39 H locs ls  hX hS (lv_sub hl [1, 0] rfl) h
      · rw [if_neg hc] at h
        refine lv_aload_n hx hb d_cPolicy_clear_44 rfl (lv_at hl 0 rfl) ?_
        refine c_get_7_4 (k := k0) hx hb hts hown hC hX hk0 (hts _ t_196) d_cPolicy_clear_45 ?_
        refine lv_iload_n hx hb d_cPolicy_clear_48 rfl (lv_at hl 1 rfl) ?_
        by_cases hg49 : inbd v1_39 4 = true
        rotate_left; · rw [if_neg hg49] at h; cases h
        rw [if_pos hg49] at h
        refine c_ald_10 (k := (k0 + 9)) hx hb hC hX (kx_7_9 hk0) hg49 d_cPolicy_clear_49 ?_
        obtain ⟨a49, e49, h⟩ := bd_some h
        refine lt_R e49 ?_
        have hka49 := (ke_10 (k := (k0 + 9)) (kx_7_9 hk0) (inbd_lt hg49))
        rw [← e49] at hka49
        refine lv_iconst (v := 0) hx hb d_cPolicy_clear_50 (by decide) ?_
        refine c_put_8_1N (k := a49) (v := 0) hx hb hts hown hC hX hS hka49 (va_Nw.use rfl (hC.2.1 _ t_80)) d_cPolicy_clear_51 (fun H locs hX hS => ?_)
        obtain ⟨S51, e51, h⟩ := bd_some h
        rw [← e51] at hX
        obtain ⟨a54, e54, h⟩ := bd_some h
        refine lv_iinc (v := a54) (lv' := [(1, .int a54), (0, .ref (b + k0))]) hx hb d_cPolicy_clear_54 hl (k := 1) rfl e54.symm (by decide) rfl (fun ls hl => ?_)
        refine lv_goto hx hb d_cPolicy_clear_57 (tgt := 39) (by decide) ?_
        exact ih39 a54 S51 H locs ls  hX hS (lv_sub hl [1, 0] rfl) h
  exact L39 600 0 S34 H locs ls  hX hS (lv_sub hl [1, 0] rfl) h
abbrev y_cTokens_isLetter : MethodName := ({ cls := "TypeGuard$Tokens", name := "isLetter", desc := "(C)Z" } : Jvm.MethodName)
theorem d_cTokens_isLetter_0 : decode prog_9_method_13_code 0 = .ok (.iload_n 0, 1) := by decide +kernel
theorem d_cTokens_isLetter_1 : decode prog_9_method_13_code 1 = .ok (.bipush 97, 2) := by decide +kernel
theorem d_cTokens_isLetter_3 : decode prog_9_method_13_code 3 = .ok (.if_icmp .lt 13, 3) := by decide +kernel
theorem d_cTokens_isLetter_6 : decode prog_9_method_13_code 6 = .ok (.iload_n 0, 1) := by decide +kernel
theorem d_cTokens_isLetter_7 : decode prog_9_method_13_code 7 = .ok (.bipush 122, 2) := by decide +kernel
theorem d_cTokens_isLetter_9 : decode prog_9_method_13_code 9 = .ok (.if_icmp .gt 7, 3) := by decide +kernel
theorem d_cTokens_isLetter_12 : decode prog_9_method_13_code 12 = .ok (.iconst 1, 1) := by decide +kernel
theorem d_cTokens_isLetter_13 : decode prog_9_method_13_code 13 = .ok (.goto 4, 3) := by decide +kernel
theorem d_cTokens_isLetter_16 : decode prog_9_method_13_code 16 = .ok (.iconst 0, 1) := by decide +kernel
theorem d_cTokens_isLetter_17 : decode prog_9_method_13_code 17 = .ok (.ireturn, 1) := by decide +kernel
def cTokens_isLetter (x0 : Int32) : Option Bool := (if x0 < 97 then some false else (if 122 < x0 then some false else some true))
set_option maxHeartbeats 4000000 in
set_option maxRecDepth 100000 in
theorem M_cTokens_isLetter {l : Launch} {D : va_G} {cA : Nat → ClassId} {b : Nat} {ad : Nat → Nat} {x0 : Int32} {S : CS} {T : MS × (Nat → Int64)} {rr : Bool}  (h : cTokens_isLetter x0 = some rr) : Met l y_cTokens_isLetter (Cond.code y_cTokens_isLetter prog_9_method_13_code 1 (Option.some Jvm.ClassFile.FieldType.boolean) :: TW) { frames := 0, cells := 0, slots := 0, locals := 0 } (va_Pc [.int x0] (Rp D cA b ad (S, T))) (Qr D cA b ad (S, T) (some (.int (bI rr)))) 0 0 (Ab b) := by
  refine Ct_of (by decide) (Nat.le_of_ble_eq_true rfl) ?_
  intro p e R s m args below meth c ls Q H locs hR hQ hx hb hts hown hml hr hlk hC hX hS hl
  have hRf : R.frames = 0 := by rw [hR]
  have hRl : R.locals = 0 := by rw [hR]
  have hown : s.vm.findClass "TypeGuard$Tokens" = some m.cls := hown
  have hl : lv_has ls 1 [(0, .int x0)] := hl
  rw [cTokens_isLetter] at h
  refine lv_iload_n hx hb d_cTokens_isLetter_0 rfl (lv_at hl 0 rfl) ?_
  refine lv_bipush (v := 97) hx hb d_cTokens_isLetter_1 (by decide) ?_
  refine lv_icmp_lt hx hb d_cTokens_isLetter_3 (tgt := 16) (by decide) (fun hc => ?_) (fun hc => ?_)
  · rw [if_pos hc] at h
    refine lv_iconst (v := 0) hx hb d_cTokens_isLetter_16 (by decide) ?_
    obtain rfl := Option.some.inj h
    exact rt_zf hQ hx hb hr hX hS hlk d_cTokens_isLetter_17
  · rw [if_neg hc] at h
    refine lv_iload_n hx hb d_cTokens_isLetter_6 rfl (lv_at hl 0 rfl) ?_
    refine lv_bipush (v := 122) hx hb d_cTokens_isLetter_7 (by decide) ?_
    refine lv_icmp_gt hx hb d_cTokens_isLetter_9 (tgt := 16) (by decide) (fun hc => ?_) (fun hc => ?_)
    · rw [if_pos hc] at h
      refine lv_iconst (v := 0) hx hb d_cTokens_isLetter_16 (by decide) ?_
      obtain rfl := Option.some.inj h
      exact rt_zf hQ hx hb hr hX hS hlk d_cTokens_isLetter_17
    · rw [if_neg hc] at h
      refine lv_iconst (v := 1) hx hb d_cTokens_isLetter_12 (by decide) ?_
      refine lv_goto hx hb d_cTokens_isLetter_13 (tgt := 17) (by decide) ?_
      obtain rfl := Option.some.inj h
      exact rt_zt hQ hx hb hr hX hS hlk d_cTokens_isLetter_17
abbrev y_cTokens_isOfName : MethodName := ({ cls := "TypeGuard$Tokens", name := "isOfName", desc := "(C)Z" } : Jvm.MethodName)
theorem d_cTokens_isOfName_0 : decode prog_9_method_14_code 0 = .ok (.iload_n 0, 1) := by decide +kernel
theorem d_cTokens_isOfName_1 : decode prog_9_method_14_code 1 = .ok (.invokestatic 38, 3) := by decide +kernel
theorem d_cTokens_isOfName_4 : decode prog_9_method_14_code 4 = .ok (.ifCond .ne 21, 3) := by decide +kernel
theorem d_cTokens_isOfName_7 : decode prog_9_method_14_code 7 = .ok (.iload_n 0, 1) := by decide +kernel
theorem d_cTokens_isOfName_8 : decode prog_9_method_14_code 8 = .ok (.bipush 48, 2) := by decide +kernel
theorem d_cTokens_isOfName_10 : decode prog_9_method_14_code 10 = .ok (.if_icmp .lt 9, 3) := by decide +kernel
theorem d_cTokens_isOfName_13 : decode prog_9_method_14_code 13 = .ok (.iload_n 0, 1) := by decide +kernel
theorem d_cTokens_isOfName_14 : decode prog_9_method_14_code 14 = .ok (.bipush 57, 2) := by decide +kernel
theorem d_cTokens_isOfName_16 : decode prog_9_method_14_code 16 = .ok (.if_icmp .le 9, 3) := by decide +kernel
theorem d_cTokens_isOfName_19 : decode prog_9_method_14_code 19 = .ok (.iload_n 0, 1) := by decide +kernel
theorem d_cTokens_isOfName_20 : decode prog_9_method_14_code 20 = .ok (.bipush 95, 2) := by decide +kernel
theorem d_cTokens_isOfName_22 : decode prog_9_method_14_code 22 = .ok (.if_icmp .ne 7, 3) := by decide +kernel
theorem d_cTokens_isOfName_25 : decode prog_9_method_14_code 25 = .ok (.iconst 1, 1) := by decide +kernel
theorem d_cTokens_isOfName_26 : decode prog_9_method_14_code 26 = .ok (.goto 4, 3) := by decide +kernel
theorem d_cTokens_isOfName_29 : decode prog_9_method_14_code 29 = .ok (.iconst 0, 1) := by decide +kernel
theorem d_cTokens_isOfName_30 : decode prog_9_method_14_code 30 = .ok (.ireturn, 1) := by decide +kernel
def cTokens_isOfName_J19 (v0_19 : Int32) : Option Bool := (if v0_19 = 95 then some true else some false)
def cTokens_isOfName (x0 : Int32) : Option Bool := ((cTokens_isLetter x0).bind fun q1 => (if q1 = true then some true else (if x0 < 48 then cTokens_isOfName_J19 x0 else (if x0 ≤ 57 then some true else cTokens_isOfName_J19 x0))))
set_option maxHeartbeats 4000000 in
set_option maxRecDepth 100000 in
theorem M_cTokens_isOfName {l : Launch} {D : va_G} {cA : Nat → ClassId} {b : Nat} {ad : Nat → Nat} {x0 : Int32} {S : CS} {T : MS × (Nat → Int64)} {rr : Bool}  (h : cTokens_isOfName x0 = some rr) : Met l y_cTokens_isOfName (Cond.code y_cTokens_isOfName prog_9_method_14_code 1 (Option.some Jvm.ClassFile.FieldType.boolean) :: TW) { frames := 1, cells := 0, slots := 0, locals := 20 } (va_Pc [.int x0] (Rp D cA b ad (S, T))) (Qr D cA b ad (S, T) (some (.int (bI rr)))) 0 0 (Ab b) := by
  refine Ct_of (by decide) (Nat.le_of_ble_eq_true rfl) ?_
  intro p e R s m args below meth c ls Q H locs hR hQ hx hb hts hown hml hr hlk hC hX hS hl
  have hRf : R.frames = 1 := by rw [hR]
  have hRl : R.locals = 20 := by rw [hR]
  have hown : s.vm.findClass "TypeGuard$Tokens" = some m.cls := hown
  have hl : lv_has ls 1 [(0, .int x0)] := hl
  rw [cTokens_isOfName] at h
  refine lv_iload_n hx hb d_cTokens_isOfName_0 rfl (lv_at hl 0 rfl) ?_
  obtain ⟨q1, hc1, h⟩ := Option.bind_eq_some_iff.mp h
  refine ck_S (As := [.int x0]) (rest := []) (st1 := [.int (bI q1)]) (M_cTokens_isLetter  hc1) t_442 t_443 t_444 t_3 hx hb hts hown hC hX hS  hml hl.1 ⟨by rw [hRf]; decide, by rw [hRl]; decide⟩ ⟨rfl, rfl⟩ (n := 1) (by decide +kernel) rfl rfl rfl (lv_room (Nat.le_of_ble_eq_true rfl)) d_cTokens_isOfName_1 (fun H locs hX hS => ?_)
  refine lz_ifne hx hb d_cTokens_isOfName_4 (tgt := 25) (by decide) (fun hc => ?_) (fun hc => ?_)
  · rw [if_pos hc] at h
    refine lv_iconst (v := 1) hx hb d_cTokens_isOfName_25 (by decide) ?_
    refine lv_goto hx hb d_cTokens_isOfName_26 (tgt := 30) (by decide) ?_
    obtain rfl := Option.some.inj h
    exact rt_zt hQ hx hb hr hX hS hlk d_cTokens_isOfName_30
  · rw [if_neg hc] at h
    refine lv_iload_n hx hb d_cTokens_isOfName_7 rfl (lv_at hl 0 rfl) ?_
    refine lv_bipush (v := 48) hx hb d_cTokens_isOfName_8 (by decide) ?_
    have J19 : ∀  (H : Heap) (locs : List Loc) (ls : Array Slot), hp D cA b ad (S, T) H → va_S (Ab b) s.heap H locs → lv_has ls 1 [(0, .int x0)] → cTokens_isOfName_J19 x0 = some rr → W p l e R s m args below meth c H locs 0 0 Q (F0 m 19 ls []) := by
      intro  H locs ls  hX hS hl h
      rw [cTokens_isOfName_J19] at h
      refine lv_iload_n hx hb d_cTokens_isOfName_19 rfl (lv_at hl 0 rfl) ?_
      refine lv_bipush (v := 95) hx hb d_cTokens_isOfName_20 (by decide) ?_
      refine lv_icmp_ne hx hb d_cTokens_isOfName_22 (tgt := 29) (by decide) (fun hc => ?_) (fun hc => ?_)
      · rw [if_neg hc] at h
        refine lv_iconst (v := 0) hx hb d_cTokens_isOfName_29 (by decide) ?_
        obtain rfl := Option.some.inj h
        exact rt_zf hQ hx hb hr hX hS hlk d_cTokens_isOfName_30
      · rw [if_pos hc] at h
        refine lv_iconst (v := 1) hx hb d_cTokens_isOfName_25 (by decide) ?_
        refine lv_goto hx hb d_cTokens_isOfName_26 (tgt := 30) (by decide) ?_
        obtain rfl := Option.some.inj h
        exact rt_zt hQ hx hb hr hX hS hlk d_cTokens_isOfName_30
    refine lv_icmp_lt hx hb d_cTokens_isOfName_10 (tgt := 19) (by decide) (fun hc => ?_) (fun hc => ?_)
    · rw [if_pos hc] at h
      exact J19  H locs ls  hX hS (lv_sub hl [0] rfl) h
    · rw [if_neg hc] at h
      refine lv_iload_n hx hb d_cTokens_isOfName_13 rfl (lv_at hl 0 rfl) ?_
      refine lv_bipush (v := 57) hx hb d_cTokens_isOfName_14 (by decide) ?_
      refine lv_icmp_le hx hb d_cTokens_isOfName_16 (tgt := 25) (by decide) (fun hc => ?_) (fun hc => ?_)
      · rw [if_pos hc] at h
        refine lv_iconst (v := 1) hx hb d_cTokens_isOfName_25 (by decide) ?_
        refine lv_goto hx hb d_cTokens_isOfName_26 (tgt := 30) (by decide) ?_
        obtain rfl := Option.some.inj h
        exact rt_zt hQ hx hb hr hX hS hlk d_cTokens_isOfName_30
      · rw [if_neg hc] at h
        exact J19  H locs ls  hX hS (lv_sub hl [0] rfl) h
abbrev y_cTokens_extend : MethodName := ({ cls := "TypeGuard$Tokens", name := "extend", desc := "(CI)V" } : Jvm.MethodName)
theorem d_cTokens_extend_0 : decode prog_9_method_11_code 0 = .ok (.aload_n 0, 1) := by decide +kernel
theorem d_cTokens_extend_1 : decode prog_9_method_11_code 1 = .ok (.getfield 23, 3) := by decide +kernel
theorem d_cTokens_extend_4 : decode prog_9_method_11_code 4 = .ok (.iconst 1, 1) := by decide +kernel
theorem d_cTokens_extend_5 : decode prog_9_method_11_code 5 = .ok (.isub, 1) := by decide +kernel
theorem d_cTokens_extend_6 : decode prog_9_method_11_code 6 = .ok (.istore_n 3, 1) := by decide +kernel
theorem d_cTokens_extend_7 : decode prog_9_method_11_code 7 = .ok (.iload_n 3, 1) := by decide +kernel
theorem d_cTokens_extend_8 : decode prog_9_method_11_code 8 = .ok (.ifCond .ge 4, 3) := by decide +kernel
theorem d_cTokens_extend_11 : decode prog_9_method_11_code 11 = .ok (.return_, 1) := by decide +kernel
theorem d_cTokens_extend_12 : decode prog_9_method_11_code 12 = .ok (.iload_n 2, 1) := by decide +kernel
theorem d_cTokens_extend_13 : decode prog_9_method_11_code 13 = .ok (.aload_n 0, 1) := by decide +kernel
theorem d_cTokens_extend_14 : decode prog_9_method_11_code 14 = .ok (.getfield 15, 3) := by decide +kernel
theorem d_cTokens_extend_17 : decode prog_9_method_11_code 17 = .ok (.iload_n 3, 1) := by decide +kernel
theorem d_cTokens_extend_18 : decode prog_9_method_11_code 18 = .ok (.iaload, 1) := by decide +kernel
theorem d_cTokens_extend_19 : decode prog_9_method_11_code 19 = .ok (.isub, 1) := by decide +kernel
theorem d_cTokens_extend_20 : decode prog_9_method_11_code 20 = .ok (.bipush 9, 2) := by decide +kernel
theorem d_cTokens_extend_22 : decode prog_9_method_11_code 22 = .ok (.if_icmp .ge 24, 3) := by decide +kernel
theorem d_cTokens_extend_25 : decode prog_9_method_11_code 25 = .ok (.aload_n 0, 1) := by decide +kernel
theorem d_cTokens_extend_26 : decode prog_9_method_11_code 26 = .ok (.getfield 19, 3) := by decide +kernel
theorem d_cTokens_extend_29 : decode prog_9_method_11_code 29 = .ok (.iload_n 3, 1) := by decide +kernel
theorem d_cTokens_extend_30 : decode prog_9_method_11_code 30 = .ok (.aload_n 0, 1) := by decide +kernel
theorem d_cTokens_extend_31 : decode prog_9_method_11_code 31 = .ok (.getfield 19, 3) := by decide +kernel
theorem d_cTokens_extend_34 : decode prog_9_method_11_code 34 = .ok (.iload_n 3, 1) := by decide +kernel
theorem d_cTokens_extend_35 : decode prog_9_method_11_code 35 = .ok (.laload, 1) := by decide +kernel
theorem d_cTokens_extend_36 : decode prog_9_method_11_code 36 = .ok (.bipush 7, 2) := by decide +kernel
theorem d_cTokens_extend_38 : decode prog_9_method_11_code 38 = .ok (.lshl, 1) := by decide +kernel
theorem d_cTokens_extend_39 : decode prog_9_method_11_code 39 = .ok (.iload_n 1, 1) := by decide +kernel
theorem d_cTokens_extend_40 : decode prog_9_method_11_code 40 = .ok (.i2l, 1) := by decide +kernel
theorem d_cTokens_extend_41 : decode prog_9_method_11_code 41 = .ok (.lor, 1) := by decide +kernel
theorem d_cTokens_extend_42 : decode prog_9_method_11_code 42 = .ok (.lastore, 1) := by decide +kernel
theorem d_cTokens_extend_43 : decode prog_9_method_11_code 43 = .ok (.goto 18, 3) := by decide +kernel
theorem d_cTokens_extend_46 : decode prog_9_method_11_code 46 = .ok (.aload_n 0, 1) := by decide +kernel
theorem d_cTokens_extend_47 : decode prog_9_method_11_code 47 = .ok (.getfield 9, 3) := by decide +kernel
theorem d_cTokens_extend_50 : decode prog_9_method_11_code 50 = .ok (.iload_n 3, 1) := by decide +kernel
theorem d_cTokens_extend_51 : decode prog_9_method_11_code 51 = .ok (.bipush 63, 2) := by decide +kernel
theorem d_cTokens_extend_53 : decode prog_9_method_11_code 53 = .ok (.castore, 1) := by decide +kernel
theorem d_cTokens_extend_54 : decode prog_9_method_11_code 54 = .ok (.aload_n 0, 1) := by decide +kernel
theorem d_cTokens_extend_55 : decode prog_9_method_11_code 55 = .ok (.getfield 19, 3) := by decide +kernel
theorem d_cTokens_extend_58 : decode prog_9_method_11_code 58 = .ok (.iload_n 3, 1) := by decide +kernel
theorem d_cTokens_extend_59 : decode prog_9_method_11_code 59 = .ok (.lconst 0, 1) := by decide +kernel
theorem d_cTokens_extend_60 : decode prog_9_method_11_code 60 = .ok (.lastore, 1) := by decide +kernel
theorem d_cTokens_extend_61 : decode prog_9_method_11_code 61 = .ok (.return_, 1) := by decide +kernel
def cTokens_extend (x1 : Int32) (x2 : Int32) (S : CS) : Option CS := (bd (((gI S 3 3) - 1)) fun a6 => (if 0 ≤ a6 then (if inbd a6 481 = true then (if 9 ≤ (x2 - (gI S 5 (txN a6))) then (if inbd a6 481 = true then (bd (pI S 4 (txN a6) (iC 63)) fun S53 => (if inbd a6 481 = true then (bd (pL S53 6 (txN a6) 0) fun S60 => some S60) else none)) else none) else (if inbd a6 481 = true then (if inbd a6 481 = true then (bd (pL S 6 (txN a6) ((lSh (gL S 6 (txN a6)) 7) ||| ((x1).toInt64))) fun S42 => some S42) else none) else none)) else none) else some S))
set_option maxHeartbeats 4000000 in
set_option maxRecDepth 100000 in
theorem M_cTokens_extend {l : Launch} {D : va_G} {cA : Nat → ClassId} {b : Nat} {ad : Nat → Nat} {x1 : Int32} {x2 : Int32} {S : CS} {T : MS × (Nat → Int64)} {rr : CS}  (h : cTokens_extend x1 x2 S = some rr) : Met l y_cTokens_extend (Cond.code y_cTokens_extend prog_9_method_11_code 4 (Option.none : Option Jvm.ClassFile.FieldType) :: TW) { frames := 0, cells := 0, slots := 0, locals := 0 } (va_Pc [.ref (b + 3), .int x1, .int x2] (Rp D cA b ad (S, T))) (Qr D cA b ad (rr, T) none) 0 0 (Ab b) := by
  refine Ct_of (by decide) (Nat.le_of_ble_eq_true rfl) ?_
  intro p e R s m args below meth c ls Q H locs hR hQ hx hb hts hown hml hr hlk hC hX hS hl
  have hRf : R.frames = 0 := by rw [hR]
  have hRl : R.locals = 0 := by rw [hR]
  have hown : s.vm.findClass "TypeGuard$Tokens" = some m.cls := hown
  have hl : lv_has ls 4 [(0, .ref (b + 3)), (1, .int x1), (2, .int x2)] := hl
  rw [cTokens_extend] at h
  refine lv_aload_n hx hb d_cTokens_extend_0 rfl (lv_at hl 0 rfl) ?_
  refine c_get_3_3 hx hb hts hown hC hX (by rfl) (hts _ t_50) d_cTokens_extend_1 ?_
  refine lv_iconst (v := 1) hx hb d_cTokens_extend_4 (by decide) ?_
  refine lv_isub hx hb d_cTokens_extend_5 ?_
  obtain ⟨a6, e6, h⟩ := bd_some h
  refine lt_I e6 ?_
  refine lv_istore_n (lv' := [(3, .int a6), (0, .ref (b + 3)), (1, .int x1), (2, .int x2)]) hx hb d_cTokens_extend_6 rfl hl (by decide) rfl (fun ls hl => ?_)
  refine lv_iload_n hx hb d_cTokens_extend_7 rfl (lv_at hl 0 rfl) ?_
  refine lv_if_ge hx hb d_cTokens_extend_8 (tgt := 12) (by decide) (fun hc => ?_) (fun hc => ?_)
  · rw [if_pos hc] at h
    refine lv_iload_n hx hb d_cTokens_extend_12 rfl (lv_at hl 3 rfl) ?_
    refine lv_aload_n hx hb d_cTokens_extend_13 rfl (lv_at hl 1 rfl) ?_
    refine c_get_3_1 hx hb hts hown hC hX (by rfl) (hts _ t_48) d_cTokens_extend_14 ?_
    refine lv_iload_n hx hb d_cTokens_extend_17 rfl (lv_at hl 0 rfl) ?_
    by_cases hg18 : inbd a6 481 = true
    rotate_left; · rw [if_neg hg18] at h; cases h
    rw [if_pos hg18] at h
    refine c_ald_5 (k := 5) hx hb hC hX (by rfl) hg18 d_cTokens_extend_18 ?_
    refine lv_isub hx hb d_cTokens_extend_19 ?_
    refine lv_bipush (v := 9) hx hb d_cTokens_extend_20 (by decide) ?_
    refine lv_icmp_ge hx hb d_cTokens_extend_22 (tgt := 46) (by decide) (fun hc => ?_) (fun hc => ?_)
    · rw [if_pos hc] at h
      refine lv_aload_n hx hb d_cTokens_extend_46 rfl (lv_at hl 1 rfl) ?_
      refine c_get_3_0 hx hb hts hown hC hX (by rfl) (hts _ t_47) d_cTokens_extend_47 ?_
      refine lv_iload_n hx hb d_cTokens_extend_50 rfl (lv_at hl 0 rfl) ?_
      refine lv_bipush (v := 63) hx hb d_cTokens_extend_51 (by decide) ?_
      by_cases hg53 : inbd a6 481 = true
      rotate_left; · rw [if_neg hg53] at h; cases h
      rw [if_pos hg53] at h
      refine c_ast_4 (k := 4) (v := 63) hx hb hC hX hS (by rfl) hg53 d_cTokens_extend_53 (fun H locs hX hS => ?_)
      obtain ⟨S53, e53, h⟩ := bd_some h
      rw [← e53] at hX
      refine lv_aload_n hx hb d_cTokens_extend_54 rfl (lv_at hl 1 rfl) ?_
      refine c_get_3_2 hx hb hts hown hC hX (by rfl) (hts _ t_49) d_cTokens_extend_55 ?_
      refine lv_iload_n hx hb d_cTokens_extend_58 rfl (lv_at hl 0 rfl) ?_
      refine lv_lconst (v := 0) hx hb d_cTokens_extend_59 (by decide) ?_
      by_cases hg60 : inbd a6 481 = true
      rotate_left; · rw [if_neg hg60] at h; cases h
      rw [if_pos hg60] at h
      refine c_ast_6 (k := 6) (v := 0) hx hb hC hX hS (by rfl) hg60 d_cTokens_extend_60 (fun H locs hX hS => ?_)
      obtain ⟨S60, e60, h⟩ := bd_some h
      rw [← e60] at hX
      obtain rfl := Option.some.inj h
      exact rt_v hQ hx hb hr hX hS hlk d_cTokens_extend_61
    · rw [if_neg hc] at h
      refine lv_aload_n hx hb d_cTokens_extend_25 rfl (lv_at hl 1 rfl) ?_
      refine c_get_3_2 hx hb hts hown hC hX (by rfl) (hts _ t_49) d_cTokens_extend_26 ?_
      refine lv_iload_n hx hb d_cTokens_extend_29 rfl (lv_at hl 0 rfl) ?_
      refine lv_aload_n hx hb d_cTokens_extend_30 rfl (lv_at hl 1 rfl) ?_
      refine c_get_3_2 hx hb hts hown hC hX (by rfl) (hts _ t_49) d_cTokens_extend_31 ?_
      refine lv_iload_n hx hb d_cTokens_extend_34 rfl (lv_at hl 0 rfl) ?_
      by_cases hg35 : inbd a6 481 = true
      rotate_left; · rw [if_neg hg35] at h; cases h
      rw [if_pos hg35] at h
      refine c_ald_6 (k := 6) hx hb hC hX (by rfl) hg35 d_cTokens_extend_35 ?_
      refine lv_bipush (v := 7) hx hb d_cTokens_extend_36 (by decide) ?_
      refine lv_lshl (v := (lSh (gL S 6 (txN a6)) 7)) hx hb d_cTokens_extend_38 rfl ?_
      refine lv_iload_n hx hb d_cTokens_extend_39 rfl (lv_at hl 2 rfl) ?_
      refine lv_i2l (v := ((x1).toInt64)) hx hb d_cTokens_extend_40 rfl ?_
      refine lv_lor hx hb d_cTokens_extend_41 ?_
      by_cases hg42 : inbd a6 481 = true
      rotate_left; · rw [if_neg hg42] at h; cases h
      rw [if_pos hg42] at h
      refine c_ast_6 (k := 6) (v := ((lSh (gL S 6 (txN a6)) 7) ||| ((x1).toInt64))) hx hb hC hX hS (by rfl) hg42 d_cTokens_extend_42 (fun H locs hX hS => ?_)
      obtain ⟨S42, e42, h⟩ := bd_some h
      rw [← e42] at hX
      refine lv_goto hx hb d_cTokens_extend_43 (tgt := 61) (by decide) ?_
      obtain rfl := Option.some.inj h
      exact rt_v hQ hx hb hr hX hS hlk d_cTokens_extend_61
  · rw [if_neg hc] at h
    obtain rfl := Option.some.inj h
    exact rt_v hQ hx hb hr hX hS hlk d_cTokens_extend_11
abbrev y_cTokens_sortOf : MethodName := ({ cls := "TypeGuard$Tokens", name := "sortOf", desc := "(C)C" } : Jvm.MethodName)
theorem d_cTokens_sortOf_0 : decode prog_9_method_12_code 0 = .ok (.iload_n 0, 1) := by decide +kernel
theorem d_cTokens_sortOf_1 : decode prog_9_method_12_code 1 = .ok (.invokestatic 38, 3) := by decide +kernel
theorem d_cTokens_sortOf_4 : decode prog_9_method_12_code 4 = .ok (.ifCond .eq 6, 3) := by decide +kernel
theorem d_cTokens_sortOf_7 : decode prog_9_method_12_code 7 = .ok (.bipush 97, 2) := by decide +kernel
theorem d_cTokens_sortOf_9 : decode prog_9_method_12_code 9 = .ok (.ireturn, 1) := by decide +kernel
theorem d_cTokens_sortOf_10 : decode prog_9_method_12_code 10 = .ok (.ldc 65, 2) := by decide +kernel
theorem d_cTokens_sortOf_12 : decode prog_9_method_12_code 12 = .ok (.iload_n 0, 1) := by decide +kernel
theorem d_cTokens_sortOf_13 : decode prog_9_method_12_code 13 = .ok (.invokevirtual 67, 3) := by decide +kernel
theorem d_cTokens_sortOf_16 : decode prog_9_method_12_code 16 = .ok (.ifCond .lt 7, 3) := by decide +kernel
theorem d_cTokens_sortOf_19 : decode prog_9_method_12_code 19 = .ok (.iload_n 0, 1) := by decide +kernel
theorem d_cTokens_sortOf_20 : decode prog_9_method_12_code 20 = .ok (.goto 5, 3) := by decide +kernel
theorem d_cTokens_sortOf_23 : decode prog_9_method_12_code 23 = .ok (.bipush 63, 2) := by decide +kernel
theorem d_cTokens_sortOf_25 : decode prog_9_method_12_code 25 = .ok (.ireturn, 1) := by decide +kernel
def cTokens_sortOf (x0 : Int32) : Option Int32 := ((cTokens_isLetter x0).bind fun q1 => (if q1 = true then some 97 else ((jString_indexOf1 x0).bind fun q13 => (if q13 < 0 then some 63 else (if iC x0 = x0 then some x0 else none)))))
set_option maxHeartbeats 4000000 in
set_option maxRecDepth 100000 in
theorem M_cTokens_sortOf {l : Launch} {D : va_G} {cA : Nat → ClassId} {b : Nat} {ad : Nat → Nat} {x0 : Int32} {S : CS} {T : MS × (Nat → Int64)} {rr : Int32}  (h : cTokens_sortOf x0 = some rr) : Met l y_cTokens_sortOf (Cond.code y_cTokens_sortOf prog_9_method_12_code 1 (Option.some Jvm.ClassFile.FieldType.char) :: TW) { frames := 4, cells := 0, slots := 0, locals := 91 } (va_Pc [.int x0] (Rp D cA b ad (S, T))) (Qr D cA b ad (S, T) (some (.int rr))) 0 0 (Ab b) := by
  refine Ct_of (by decide) (Nat.le_of_ble_eq_true rfl) ?_
  intro p e R s m args below meth c ls Q H locs hR hQ hx hb hts hown hml hr hlk hC hX hS hl
  have hRf : R.frames = 4 := by rw [hR]
  have hRl : R.locals = 91 := by rw [hR]
  have hown : s.vm.findClass "TypeGuard$Tokens" = some m.cls := hown
  have hl : lv_has ls 1 [(0, .int x0)] := hl
  rw [cTokens_sortOf] at h
  refine lv_iload_n hx hb d_cTokens_sortOf_0 rfl (lv_at hl 0 rfl) ?_
  obtain ⟨q1, hc1, h⟩ := Option.bind_eq_some_iff.mp h
  refine ck_S (As := [.int x0]) (rest := []) (st1 := [.int (bI q1)]) (M_cTokens_isLetter  hc1) t_442 t_443 t_444 t_3 hx hb hts hown hC hX hS  hml hl.1 ⟨by rw [hRf]; decide, by rw [hRl]; decide⟩ ⟨rfl, rfl⟩ (n := 1) (by decide +kernel) rfl rfl rfl (lv_room (Nat.le_of_ble_eq_true rfl)) d_cTokens_sortOf_1 (fun H locs hX hS => ?_)
  refine lz_ifeq hx hb d_cTokens_sortOf_4 (tgt := 10) (by decide) (fun hc => ?_) (fun hc => ?_)
  · rw [if_neg hc] at h
    refine st_str hx hb hC hS hown d_cTokens_sortOf_10 ?_
    refine lv_iload_n hx hb d_cTokens_sortOf_12 rfl (lv_at hl 0 rfl) ?_
    obtain ⟨q13, hc13, h⟩ := Option.bind_eq_some_iff.mp h
    refine ck_V (As := [.int x0]) (rest := []) (st1 := [.int q13]) (M_jString_indexOf1  hc13) t_453 t_454 t_455 t_456 t_14 hx hb hts hown hC hX hS (hrc_str hC hS) hml hl.1 ⟨by rw [hRf]; decide, by rw [hRl]; decide⟩ ⟨rfl, rfl⟩ (n := 1) (by decide +kernel) rfl rfl rfl (lv_room (Nat.le_of_ble_eq_true rfl)) d_cTokens_sortOf_13 (fun H locs hX hS => ?_)
    refine lv_if_lt hx hb d_cTokens_sortOf_16 (tgt := 23) (by decide) (fun hc => ?_) (fun hc => ?_)
    · rw [if_pos hc] at h
      refine lv_bipush (v := 63) hx hb d_cTokens_sortOf_23 (by decide) ?_
      obtain rfl := Option.some.inj h
      exact rt_c hQ hx hb hr (by decide) hX hS hlk d_cTokens_sortOf_25
    · rw [if_neg hc] at h
      refine lv_iload_n hx hb d_cTokens_sortOf_19 rfl (lv_at hl 0 rfl) ?_
      refine lv_goto hx hb d_cTokens_sortOf_20 (tgt := 25) (by decide) ?_
      by_cases hg : iC x0 = x0
      rotate_left; · rw [if_neg hg] at h; cases h
      rw [if_pos hg] at h
      obtain rfl := Option.some.inj h
      exact rt_c hQ hx hb hr hg hX hS hlk d_cTokens_sortOf_25
  · rw [if_pos hc] at h
    refine lv_bipush (v := 97) hx hb d_cTokens_sortOf_7 (by decide) ?_
    obtain rfl := Option.some.inj h
    exact rt_c hQ hx hb hr (by decide) hX hS hlk d_cTokens_sortOf_9
abbrev y_cTokens_add : MethodName := ({ cls := "TypeGuard$Tokens", name := "add", desc := "(CIJ)V" } : Jvm.MethodName)
theorem d_cTokens_add_0 : decode prog_9_method_10_code 0 = .ok (.aload_n 0, 1) := by decide +kernel
theorem d_cTokens_add_1 : decode prog_9_method_10_code 1 = .ok (.getfield 23, 3) := by decide +kernel
theorem d_cTokens_add_4 : decode prog_9_method_10_code 4 = .ok (.aload_n 0, 1) := by decide +kernel
theorem d_cTokens_add_5 : decode prog_9_method_10_code 5 = .ok (.getfield 9, 3) := by decide +kernel
theorem d_cTokens_add_8 : decode prog_9_method_10_code 8 = .ok (.arraylength, 1) := by decide +kernel
theorem d_cTokens_add_9 : decode prog_9_method_10_code 9 = .ok (.if_icmp .ge 43, 3) := by decide +kernel
theorem d_cTokens_add_12 : decode prog_9_method_10_code 12 = .ok (.aload_n 0, 1) := by decide +kernel
theorem d_cTokens_add_13 : decode prog_9_method_10_code 13 = .ok (.getfield 9, 3) := by decide +kernel
theorem d_cTokens_add_16 : decode prog_9_method_10_code 16 = .ok (.aload_n 0, 1) := by decide +kernel
theorem d_cTokens_add_17 : decode prog_9_method_10_code 17 = .ok (.getfield 23, 3) := by decide +kernel
theorem d_cTokens_add_20 : decode prog_9_method_10_code 20 = .ok (.iload_n 1, 1) := by decide +kernel
theorem d_cTokens_add_21 : decode prog_9_method_10_code 21 = .ok (.castore, 1) := by decide +kernel
theorem d_cTokens_add_22 : decode prog_9_method_10_code 22 = .ok (.aload_n 0, 1) := by decide +kernel
theorem d_cTokens_add_23 : decode prog_9_method_10_code 23 = .ok (.getfield 15, 3) := by decide +kernel
theorem d_cTokens_add_26 : decode prog_9_method_10_code 26 = .ok (.aload_n 0, 1) := by decide +kernel
theorem d_cTokens_add_27 : decode prog_9_method_10_code 27 = .ok (.getfield 23, 3) := by decide +kernel
theorem d_cTokens_add_30 : decode prog_9_method_10_code 30 = .ok (.iload_n 2, 1) := by decide +kernel
theorem d_cTokens_add_31 : decode prog_9_method_10_code 31 = .ok (.iastore, 1) := by decide +kernel
theorem d_cTokens_add_32 : decode prog_9_method_10_code 32 = .ok (.aload_n 0, 1) := by decide +kernel
theorem d_cTokens_add_33 : decode prog_9_method_10_code 33 = .ok (.getfield 19, 3) := by decide +kernel
theorem d_cTokens_add_36 : decode prog_9_method_10_code 36 = .ok (.aload_n 0, 1) := by decide +kernel
theorem d_cTokens_add_37 : decode prog_9_method_10_code 37 = .ok (.getfield 23, 3) := by decide +kernel
theorem d_cTokens_add_40 : decode prog_9_method_10_code 40 = .ok (.lload_n 3, 1) := by decide +kernel
theorem d_cTokens_add_41 : decode prog_9_method_10_code 41 = .ok (.lastore, 1) := by decide +kernel
theorem d_cTokens_add_42 : decode prog_9_method_10_code 42 = .ok (.aload_n 0, 1) := by decide +kernel
theorem d_cTokens_add_43 : decode prog_9_method_10_code 43 = .ok (.dup, 1) := by decide +kernel
theorem d_cTokens_add_44 : decode prog_9_method_10_code 44 = .ok (.getfield 23, 3) := by decide +kernel
theorem d_cTokens_add_47 : decode prog_9_method_10_code 47 = .ok (.iconst 1, 1) := by decide +kernel
theorem d_cTokens_add_48 : decode prog_9_method_10_code 48 = .ok (.iadd, 1) := by decide +kernel
theorem d_cTokens_add_49 : decode prog_9_method_10_code 49 = .ok (.putfield 23, 3) := by decide +kernel
theorem d_cTokens_add_52 : decode prog_9_method_10_code 52 = .ok (.return_, 1) := by decide +kernel
def cTokens_add (x1 : Int32) (x2 : Int32) (x3 : Int64) (S : CS) : Option CS := (if 481 ≤ (gI S 3 3) then some S else (if inbd (gI S 3 3) 481 = true then (bd (pI S 4 (txN (gI S 3 3)) (iC x1)) fun S21 => (if inbd (gI S21 3 3) 481 = true then (bd (pI S21 5 (txN (gI S21 3 3)) x2) fun S31 => (if inbd (gI S31 3 3) 481 = true then (bd (pL S31 6 (txN (gI S31 3 3)) x3) fun S41 => (bd (pI S41 3 3 ((gI S41 3 3) + 1)) fun S49 => some S49)) else none)) else none)) else none))
set_option maxHeartbeats 4000000 in
set_option maxRecDepth 100000 in
theorem M_cTokens_add {l : Launch} {D : va_G} {cA : Nat → ClassId} {b : Nat} {ad : Nat → Nat} {x1 : Int32} {x2 : Int32} {x3 : Int64} {S : CS} {T : MS × (Nat → Int64)} {rr : CS}  (h : cTokens_add x1 x2 x3 S = some rr) : Met l y_cTokens_add (Cond.code y_cTokens_add prog_9_method_10_code 5 (Option.none : Option Jvm.ClassFile.FieldType) :: TW) { frames := 0, cells := 0, slots := 0, locals := 0 } (va_Pc [.ref (b + 3), .int x1, .int x2, .long x3] (Rp D cA b ad (S, T))) (Qr D cA b ad (rr, T) none) 0 0 (Ab b) := by
  refine Ct_of (by decide) (Nat.le_of_ble_eq_true rfl) ?_
  intro p e R s m args below meth c ls Q H locs hR hQ hx hb hts hown hml hr hlk hC hX hS hl
  have hRf : R.frames = 0 := by rw [hR]
  have hRl : R.locals = 0 := by rw [hR]
  have hown : s.vm.findClass "TypeGuard$Tokens" = some m.cls := hown
  have hl : lv_has ls 5 [(0, .ref (b + 3)), (1, .int x1), (2, .int x2), (3, .long x3)] := hl
  rw [cTokens_add] at h
  refine lv_aload_n hx hb d_cTokens_add_0 rfl (lv_at hl 0 rfl) ?_
  refine c_get_3_3 hx hb hts hown hC hX (by rfl) (hts _ t_50) d_cTokens_add_1 ?_
  refine lv_aload_n hx hb d_cTokens_add_4 rfl (lv_at hl 0 rfl) ?_
  refine c_get_3_0 hx hb hts hown hC hX (by rfl) (hts _ t_47) d_cTokens_add_5 ?_
  refine c_len_4 (k := 4) hx hb hC hX (by rfl) d_cTokens_add_8 ?_
  refine lv_icmp_ge hx hb d_cTokens_add_9 (tgt := 52) (by decide) (fun hc => ?_) (fun hc => ?_)
  · rw [if_pos hc] at h
    obtain rfl := Option.some.inj h
    exact rt_v hQ hx hb hr hX hS hlk d_cTokens_add_52
  · rw [if_neg hc] at h
    refine lv_aload_n hx hb d_cTokens_add_12 rfl (lv_at hl 0 rfl) ?_
    refine c_get_3_0 hx hb hts hown hC hX (by rfl) (hts _ t_47) d_cTokens_add_13 ?_
    refine lv_aload_n hx hb d_cTokens_add_16 rfl (lv_at hl 0 rfl) ?_
    refine c_get_3_3 hx hb hts hown hC hX (by rfl) (hts _ t_50) d_cTokens_add_17 ?_
    refine lv_iload_n hx hb d_cTokens_add_20 rfl (lv_at hl 1 rfl) ?_
    by_cases hg21 : inbd (gI S 3 3) 481 = true
    rotate_left; · rw [if_neg hg21] at h; cases h
    rw [if_pos hg21] at h
    refine c_ast_4 (k := 4) (v := x1) hx hb hC hX hS (by rfl) hg21 d_cTokens_add_21 (fun H locs hX hS => ?_)
    obtain ⟨S21, e21, h⟩ := bd_some h
    rw [← e21] at hX
    refine lv_aload_n hx hb d_cTokens_add_22 rfl (lv_at hl 0 rfl) ?_
    refine c_get_3_1 hx hb hts hown hC hX (by rfl) (hts _ t_48) d_cTokens_add_23 ?_
    refine lv_aload_n hx hb d_cTokens_add_26 rfl (lv_at hl 0 rfl) ?_
    refine c_get_3_3 hx hb hts hown hC hX (by rfl) (hts _ t_50) d_cTokens_add_27 ?_
    refine lv_iload_n hx hb d_cTokens_add_30 rfl (lv_at hl 2 rfl) ?_
    by_cases hg31 : inbd (gI S21 3 3) 481 = true
    rotate_left; · rw [if_neg hg31] at h; cases h
    rw [if_pos hg31] at h
    refine c_ast_5 (k := 5) (v := x2) hx hb hC hX hS (by rfl) hg31 d_cTokens_add_31 (fun H locs hX hS => ?_)
    obtain ⟨S31, e31, h⟩ := bd_some h
    rw [← e31] at hX
    refine lv_aload_n hx hb d_cTokens_add_32 rfl (lv_at hl 0 rfl) ?_
    refine c_get_3_2 hx hb hts hown hC hX (by rfl) (hts _ t_49) d_cTokens_add_33 ?_
    refine lv_aload_n hx hb d_cTokens_add_36 rfl (lv_at hl 0 rfl) ?_
    refine c_get_3_3 hx hb hts hown hC hX (by rfl) (hts _ t_50) d_cTokens_add_37 ?_
    refine lv_lload_n hx hb d_cTokens_add_40 rfl (lv_at hl 3 rfl) ?_
    by_cases hg41 : inbd (gI S31 3 3) 481 = true
    rotate_left; · rw [if_neg hg41] at h; cases h
    rw [if_pos hg41] at h
    refine c_ast_6 (k := 6) (v := x3) hx hb hC hX hS (by rfl) hg41 d_cTokens_add_41 (fun H locs hX hS => ?_)
    obtain ⟨S41, e41, h⟩ := bd_some h
    rw [← e41] at hX
    refine lv_aload_n hx hb d_cTokens_add_42 rfl (lv_at hl 0 rfl) ?_
    refine lv_dup hx hb d_cTokens_add_43 rfl ?_
    refine c_get_3_3 hx hb hts hown hC hX (by rfl) (hts _ t_50) d_cTokens_add_44 ?_
    refine lv_iconst (v := 1) hx hb d_cTokens_add_47 (by decide) ?_
    refine lv_iadd hx hb d_cTokens_add_48 ?_
    refine c_put_3_3 (v := ((gI S41 3 3) + 1)) hx hb hts hown hC hX hS (by rfl) (hts _ t_50) d_cTokens_add_49 (fun H locs hX hS => ?_)
    obtain ⟨S49, e49, h⟩ := bd_some h
    rw [← e49] at hX
    obtain rfl := Option.some.inj h
    exact rt_v hQ hx hb hr hX hS hlk d_cTokens_add_52
abbrev y_cTokens_scan : MethodName := ({ cls := "TypeGuard$Tokens", name := "scan", desc := "([CI)V" } : Jvm.MethodName)
theorem d_cTokens_scan_0 : decode prog_9_method_2_code 0 = .ok (.aload_n 0, 1) := by decide +kernel
theorem d_cTokens_scan_1 : decode prog_9_method_2_code 1 = .ok (.iconst 0, 1) := by decide +kernel
theorem d_cTokens_scan_2 : decode prog_9_method_2_code 2 = .ok (.putfield 23, 3) := by decide +kernel
theorem d_cTokens_scan_5 : decode prog_9_method_2_code 5 = .ok (.aload_n 0, 1) := by decide +kernel
theorem d_cTokens_scan_6 : decode prog_9_method_2_code 6 = .ok (.iconst 0, 1) := by decide +kernel
theorem d_cTokens_scan_7 : decode prog_9_method_2_code 7 = .ok (.putfield 27, 3) := by decide +kernel
theorem d_cTokens_scan_10 : decode prog_9_method_2_code 10 = .ok (.iconst 0, 1) := by decide +kernel
theorem d_cTokens_scan_11 : decode prog_9_method_2_code 11 = .ok (.istore_n 3, 1) := by decide +kernel
theorem d_cTokens_scan_12 : decode prog_9_method_2_code 12 = .ok (.iconst 0, 1) := by decide +kernel
theorem d_cTokens_scan_13 : decode prog_9_method_2_code 13 = .ok (.istore 4, 2) := by decide +kernel
theorem d_cTokens_scan_15 : decode prog_9_method_2_code 15 = .ok (.iload 4, 2) := by decide +kernel
theorem d_cTokens_scan_17 : decode prog_9_method_2_code 17 = .ok (.iload_n 2, 1) := by decide +kernel
theorem d_cTokens_scan_18 : decode prog_9_method_2_code 18 = .ok (.if_icmp .ge 80, 3) := by decide +kernel
theorem d_cTokens_scan_21 : decode prog_9_method_2_code 21 = .ok (.iload 4, 2) := by decide +kernel
theorem d_cTokens_scan_23 : decode prog_9_method_2_code 23 = .ok (.aload_n 1, 1) := by decide +kernel
theorem d_cTokens_scan_24 : decode prog_9_method_2_code 24 = .ok (.arraylength, 1) := by decide +kernel
theorem d_cTokens_scan_25 : decode prog_9_method_2_code 25 = .ok (.if_icmp .ge 73, 3) := by decide +kernel
theorem d_cTokens_scan_28 : decode prog_9_method_2_code 28 = .ok (.aload_n 1, 1) := by decide +kernel
theorem d_cTokens_scan_29 : decode prog_9_method_2_code 29 = .ok (.iload 4, 2) := by decide +kernel
theorem d_cTokens_scan_31 : decode prog_9_method_2_code 31 = .ok (.caload, 1) := by decide +kernel
theorem d_cTokens_scan_32 : decode prog_9_method_2_code 32 = .ok (.istore 5, 2) := by decide +kernel
theorem d_cTokens_scan_34 : decode prog_9_method_2_code 34 = .ok (.iload_n 3, 1) := by decide +kernel
theorem d_cTokens_scan_35 : decode prog_9_method_2_code 35 = .ok (.ifCond .eq 22, 3) := by decide +kernel
theorem d_cTokens_scan_38 : decode prog_9_method_2_code 38 = .ok (.iload 5, 2) := by decide +kernel
theorem d_cTokens_scan_40 : decode prog_9_method_2_code 40 = .ok (.invokestatic 30, 3) := by decide +kernel
theorem d_cTokens_scan_43 : decode prog_9_method_2_code 43 = .ok (.ifCond .eq 14, 3) := by decide +kernel
theorem d_cTokens_scan_46 : decode prog_9_method_2_code 46 = .ok (.aload_n 0, 1) := by decide +kernel
theorem d_cTokens_scan_47 : decode prog_9_method_2_code 47 = .ok (.iload 5, 2) := by decide +kernel
theorem d_cTokens_scan_49 : decode prog_9_method_2_code 49 = .ok (.iload 4, 2) := by decide +kernel
theorem d_cTokens_scan_51 : decode prog_9_method_2_code 51 = .ok (.invokevirtual 34, 3) := by decide +kernel
theorem d_cTokens_scan_54 : decode prog_9_method_2_code 54 = .ok (.goto 38, 3) := by decide +kernel
theorem d_cTokens_scan_57 : decode prog_9_method_2_code 57 = .ok (.iload 5, 2) := by decide +kernel
theorem d_cTokens_scan_59 : decode prog_9_method_2_code 59 = .ok (.invokestatic 38, 3) := by decide +kernel
theorem d_cTokens_scan_62 : decode prog_9_method_2_code 62 = .ok (.istore_n 3, 1) := by decide +kernel
theorem d_cTokens_scan_63 : decode prog_9_method_2_code 63 = .ok (.iload 5, 2) := by decide +kernel
theorem d_cTokens_scan_65 : decode prog_9_method_2_code 65 = .ok (.bipush 32, 2) := by decide +kernel
theorem d_cTokens_scan_67 : decode prog_9_method_2_code 67 = .ok (.if_icmp .eq 25, 3) := by decide +kernel
theorem d_cTokens_scan_70 : decode prog_9_method_2_code 70 = .ok (.aload_n 0, 1) := by decide +kernel
theorem d_cTokens_scan_71 : decode prog_9_method_2_code 71 = .ok (.iload 5, 2) := by decide +kernel
theorem d_cTokens_scan_73 : decode prog_9_method_2_code 73 = .ok (.invokestatic 41, 3) := by decide +kernel
theorem d_cTokens_scan_76 : decode prog_9_method_2_code 76 = .ok (.iload 4, 2) := by decide +kernel
theorem d_cTokens_scan_78 : decode prog_9_method_2_code 78 = .ok (.iload_n 3, 1) := by decide +kernel
theorem d_cTokens_scan_79 : decode prog_9_method_2_code 79 = .ok (.ifCond .eq 9, 3) := by decide +kernel
theorem d_cTokens_scan_82 : decode prog_9_method_2_code 82 = .ok (.iload 5, 2) := by decide +kernel
theorem d_cTokens_scan_84 : decode prog_9_method_2_code 84 = .ok (.i2l, 1) := by decide +kernel
theorem d_cTokens_scan_85 : decode prog_9_method_2_code 85 = .ok (.goto 4, 3) := by decide +kernel
theorem d_cTokens_scan_88 : decode prog_9_method_2_code 88 = .ok (.lconst 0, 1) := by decide +kernel
theorem d_cTokens_scan_89 : decode prog_9_method_2_code 89 = .ok (.invokevirtual 45, 3) := by decide +kernel
theorem d_cTokens_scan_92 : decode prog_9_method_2_code 92 = .ok (.iinc 4 1, 3) := by decide +kernel
theorem d_cTokens_scan_95 : decode prog_9_method_2_code 95 = .ok (.goto (-80), 3) := by decide +kernel
theorem d_cTokens_scan_98 : decode prog_9_method_2_code 98 = .ok (.aload_n 0, 1) := by decide +kernel
theorem d_cTokens_scan_99 : decode prog_9_method_2_code 99 = .ok (.bipush 32, 2) := by decide +kernel
theorem d_cTokens_scan_101 : decode prog_9_method_2_code 101 = .ok (.iload_n 2, 1) := by decide +kernel
theorem d_cTokens_scan_102 : decode prog_9_method_2_code 102 = .ok (.lconst 0, 1) := by decide +kernel
theorem d_cTokens_scan_103 : decode prog_9_method_2_code 103 = .ok (.invokevirtual 45, 3) := by decide +kernel
theorem d_cTokens_scan_106 : decode prog_9_method_2_code 106 = .ok (.return_, 1) := by decide +kernel
def cTokens_scan_J98 (v2_98 : Int32) (S_98 : CS) : Option CS := ((cTokens_add 32 v2_98 0 S_98).bind fun q103 => some q103)
def cTokens_scan_J89 (kO15 : Bool → Int32 → CS → Option CS) (v2_89 : Int32) (v3_89 : Bool) (v4_89 : Int32) (s0_89 : Int64) (s1_89 : Int32) (s2_89 : Int32) (S_89 : CS) : Option CS := ((cTokens_add s2_89 s1_89 s0_89 S_89).bind fun q89 => (bd ((v4_89 + 1)) fun a92 => kO15 v3_89 a92 q89))
def cTokens_scan_J57 (kO15 : Bool → Int32 → CS → Option CS) (v2_57 : Int32) (v4_57 : Int32) (v5_57 : Int32) (S_57 : CS) : Option CS := ((cTokens_isLetter v5_57).bind fun q59 => (if v5_57 = 32 then (bd ((v4_57 + 1)) fun a92 => kO15 q59 a92 S_57) else ((cTokens_sortOf v5_57).bind fun q73 => (if q59 = true then cTokens_scan_J89 kO15 v2_57 q59 v4_57 ((v5_57).toInt64) v4_57 q73 S_57 else cTokens_scan_J89 kO15 v2_57 q59 v4_57 0 v4_57 q73 S_57))))
def cTokens_scan_L15 (v2_15 : Int32) : Nat → Bool → Int32 → CS → Option CS
  | 0, _, _, _ => none
  | n + 1, v3_15, v4_15, S_15 => (if v2_15 ≤ v4_15 then cTokens_scan_J98 v2_15 S_15 else (if 480 ≤ v4_15 then cTokens_scan_J98 v2_15 S_15 else (if inbd v4_15 480 = true then (bd ((gI S_15 1 (txN v4_15))) fun a32 => (if v3_15 = true then ((cTokens_isOfName a32).bind fun q40 => (if q40 = true then ((cTokens_extend a32 v4_15 S_15).bind fun q51 => (bd ((v4_15 + 1)) fun a92 => (cTokens_scan_L15 v2_15 n) v3_15 a92 q51)) else cTokens_scan_J57 (cTokens_scan_L15 v2_15 n) v2_15 v4_15 a32 S_15)) else cTokens_scan_J57 (cTokens_scan_L15 v2_15 n) v2_15 v4_15 a32 S_15)) else none)))
def cTokens_scan (x2 : Int32) (S : CS) : Option CS := (bd (pI S 3 3 0) fun S2 => (bd (pI S2 3 4 0) fun S7 => cTokens_scan_L15 x2 600 false 0 S7))
set_option maxHeartbeats 4000000 in
set_option maxRecDepth 100000 in
theorem M_cTokens_scan {l : Launch} {D : va_G} {cA : Nat → ClassId} {b : Nat} {ad : Nat → Nat} {x2 : Int32} {S : CS} {T : MS × (Nat → Int64)} {rr : CS}  (h : cTokens_scan x2 S = some rr) : Met l y_cTokens_scan (Cond.code y_cTokens_scan prog_9_method_2_code 6 (Option.none : Option Jvm.ClassFile.FieldType) :: TW) { frames := 5, cells := 0, slots := 0, locals := 111 } (va_Pc [.ref (b + 3), .ref (b + 1), .int x2] (Rp D cA b ad (S, T))) (Qr D cA b ad (rr, T) none) 0 0 (Ab b) := by
  refine Ct_of (by decide) (Nat.le_of_ble_eq_true rfl) ?_
  intro p e R s m args below meth c ls Q H locs hR hQ hx hb hts hown hml hr hlk hC hX hS hl
  have hRf : R.frames = 5 := by rw [hR]
  have hRl : R.locals = 111 := by rw [hR]
  have hown : s.vm.findClass "TypeGuard$Tokens" = some m.cls := hown
  have hl : lv_has ls 6 [(0, .ref (b + 3)), (1, .ref (b + 1)), (2, .int x2)] := hl
  rw [cTokens_scan] at h
  refine lv_aload_n hx hb d_cTokens_scan_0 rfl (lv_at hl 0 rfl) ?_
  refine lv_iconst (v := 0) hx hb d_cTokens_scan_1 (by decide) ?_
  refine c_put_3_3 (v := 0) hx hb hts hown hC hX hS (by rfl) (hts _ t_50) d_cTokens_scan_2 (fun H locs hX hS => ?_)
  obtain ⟨S2, e2, h⟩ := bd_some h
  rw [← e2] at hX
  refine lv_aload_n hx hb d_cTokens_scan_5 rfl (lv_at hl 0 rfl) ?_
  refine lv_iconst (v := 0) hx hb d_cTokens_scan_6 (by decide) ?_
  refine c_put_3_4 (v := 0) hx hb hts hown hC hX hS (by rfl) (hts _ t_51) d_cTokens_scan_7 (fun H locs hX hS => ?_)
  obtain ⟨S7, e7, h⟩ := bd_some h
  rw [← e7] at hX
  refine lv_iconst (v := 0) hx hb d_cTokens_scan_10 (by decide) ?_
  refine lv_istore_n (lv' := [(3, .int (bI false)), (0, .ref (b + 3)), (1, .ref (b + 1)), (2, .int x2)]) hx hb d_cTokens_scan_11 rfl hl (by decide) rfl (fun ls hl => ?_)
  refine lv_iconst (v := 0) hx hb d_cTokens_scan_12 (by decide) ?_
  refine lv_istore (lv' := [(4, .int 0), (3, .int (bI false)), (0, .ref (b + 3)), (1, .ref (b + 1)), (2, .int x2)]) hx hb d_cTokens_scan_13 hl (by decide) rfl (fun ls hl => ?_)
  have L15 : ∀ (n15 : Nat) (v3_15 : Bool) (v4_15 : Int32) (S_15 : CS) (H : Heap) (locs : List Loc) (ls : Array Slot), hp D cA b ad (S_15, T) H → va_S (Ab b) s.heap H locs → lv_has ls 6 [(0, .ref (b + 3)), (1, .ref (b + 1)), (2, .int x2), (3, .int (bI v3_15)), (4, .int v4_15)] → cTokens_scan_L15 x2 n15 v3_15 v4_15 S_15 = some rr → W p l e R s m args below meth c H locs 0 0 Q (F0 m 15 ls []) := by
    intro n15; induction n15 with
    | zero => intro v3_15 v4_15 S_15 H locs ls  hX hS hl h; rw [cTokens_scan_L15] at h; cases h
    | succ n15 ih15 =>
      intro v3_15 v4_15 S_15 H locs ls  hX hS hl h
      rw [cTokens_scan_L15] at h
      refine lv_iload hx hb d_cTokens_scan_15 (lv_at hl 4 rfl) ?_
      refine lv_iload_n hx hb d_cTokens_scan_17 rfl (lv_at hl 2 rfl) ?_
      have J98 : ∀  (H : Heap) (locs : List Loc) (ls : Array Slot), hp D cA b ad (S_15, T) H → va_S (Ab b) s.heap H locs → lv_has ls 6 [(0, .ref (b + 3)), (2, .int x2)] → cTokens_scan_J98 x2 S_15 = some rr → W p l e R s m args below meth c H locs 0 0 Q (F0 m 98 ls []) := by
        intro  H locs ls  hX hS hl h
        rw [cTokens_scan_J98] at h
        refine lv_aload_n hx hb d_cTokens_scan_98 rfl (lv_at hl 0 rfl) ?_
        refine lv_bipush (v := 32) hx hb d_cTokens_scan_99 (by decide) ?_
        refine lv_iload_n hx hb d_cTokens_scan_101 rfl (lv_at hl 1 rfl) ?_
        refine lv_lconst (v := 0) hx hb d_cTokens_scan_102 (by decide) ?_
        obtain ⟨q103, hc103, h⟩ := Option.bind_eq_some_iff.mp h
        refine ck_V (As := [.int 32, .int x2, .long 0]) (rest := []) (st1 := []) (M_cTokens_add  hc103) t_539 t_541 p_4 t_542 t_3 hx hb hts hown hC hX hS (hrc_c3 hC hX (by rfl)) hml hl.1 ⟨by rw [hRf]; decide, by rw [hRl]; decide⟩ ⟨rfl, rfl⟩ (n := 3) (by decide +kernel) rfl rfl rfl (lv_room (Nat.le_of_ble_eq_true rfl)) d_cTokens_scan_103 (fun H locs hX hS => ?_)
        obtain rfl := Option.some.inj h
        exact rt_v hQ hx hb hr hX hS hlk d_cTokens_scan_106
      refine lv_icmp_ge hx hb d_cTokens_scan_18 (tgt := 98) (by decide) (fun hc => ?_) (fun hc => ?_)
      · rw [if_pos hc] at h
        exact J98  H locs ls  hX hS (lv_sub hl [0, 2] rfl) h
      · rw [if_neg hc] at h
        refine lv_iload hx hb d_cTokens_scan_21 (lv_at hl 4 rfl) ?_
        refine lv_aload_n hx hb d_cTokens_scan_23 rfl (lv_at hl 1 rfl) ?_
        refine c_len_1 (k := 1) hx hb hC hX (by rfl) d_cTokens_scan_24 ?_
        refine lv_icmp_ge hx hb d_cTokens_scan_25 (tgt := 98) (by decide) (fun hc => ?_) (fun hc => ?_)
        · rw [if_pos hc] at h
          exact J98  H locs ls  hX hS (lv_sub hl [0, 2] rfl) h
        · rw [if_neg hc] at h
          refine lv_aload_n hx hb d_cTokens_scan_28 rfl (lv_at hl 1 rfl) ?_
          refine lv_iload hx hb d_cTokens_scan_29 (lv_at hl 4 rfl) ?_
          by_cases hg31 : inbd v4_15 480 = true
          rotate_left; · rw [if_neg hg31] at h; cases h
          rw [if_pos hg31] at h
          refine c_ald_1 (k := 1) hx hb hC hX (by rfl) hg31 d_cTokens_scan_31 ?_
          obtain ⟨a32, e32, h⟩ := bd_some h
          refine lt_I e32 ?_
          refine lv_istore (lv' := [(5, .int a32), (0, .ref (b + 3)), (1, .ref (b + 1)), (2, .int x2), (3, .int (bI v3_15)), (4, .int v4_15)]) hx hb d_cTokens_scan_32 hl (by decide) rfl (fun ls hl => ?_)
          refine lv_iload_n hx hb d_cTokens_scan_34 rfl (lv_at hl 4 rfl) ?_
          have J57 : ∀  (H : Heap) (locs : List Loc) (ls : Array Slot), hp D cA b ad (S_15, T) H → va_S (Ab b) s.heap H locs → lv_has ls 6 [(0, .ref (b + 3)), (1, .ref (b + 1)), (2, .int x2), (4, .int v4_15), (5, .int a32)] → cTokens_scan_J57 (cTokens_scan_L15 x2 n15) x2 v4_15 a32 S_15 = some rr → W p l e R s m args below meth c H locs 0 0 Q (F0 m 57 ls []) := by
            intro  H locs ls  hX hS hl h
            rw [cTokens_scan_J57] at h
            refine lv_iload hx hb d_cTokens_scan_57 (lv_at hl 4 rfl) ?_
            obtain ⟨q59, hc59, h⟩ := Option.bind_eq_some_iff.mp h
            refine ck_S (As := [.int a32]) (rest := []) (st1 := [.int (bI q59)]) (M_cTokens_isLetter  hc59) t_442 t_443 t_444 t_3 hx hb hts hown hC hX hS  hml hl.1 ⟨by rw [hRf]; decide, by rw [hRl]; decide⟩ ⟨rfl, rfl⟩ (n := 1) (by decide +kernel) rfl rfl rfl (lv_room (Nat.le_of_ble_eq_true rfl)) d_cTokens_scan_59 (fun H locs hX hS => ?_)
            refine lv_istore_n (lv' := [(3, .int (bI q59)), (0, .ref (b + 3)), (1, .ref (b + 1)), (2, .int x2), (4, .int v4_15), (5, .int a32)]) hx hb d_cTokens_scan_62 rfl hl (by decide) rfl (fun ls hl => ?_)
            refine lv_iload hx hb d_cTokens_scan_63 (lv_at hl 5 rfl) ?_
            refine lv_bipush (v := 32) hx hb d_cTokens_scan_65 (by decide) ?_
            refine lv_icmp_eq hx hb d_cTokens_scan_67 (tgt := 92) (by decide) (fun hc => ?_) (fun hc => ?_)
            · rw [if_pos hc] at h
              obtain ⟨a92, e92, h⟩ := bd_some h
              refine lv_iinc (v := a92) (lv' := [(4, .int a92), (3, .int (bI q59)), (0, .ref (b + 3)), (1, .ref (b + 1)), (2, .int x2), (5, .int a32)]) hx hb d_cTokens_scan_92 hl (k := 4) rfl e92.symm (by decide) rfl (fun ls hl => ?_)
              refine lv_goto hx hb d_cTokens_scan_95 (tgt := 15) (by decide) ?_
              exact ih15 q59 a92 S_15 H locs ls  hX hS (lv_sub hl [2, 3, 4, 1, 0] rfl) h
            · rw [if_neg hc] at h
              refine lv_aload_n hx hb d_cTokens_scan_70 rfl (lv_at hl 1 rfl) ?_
              refine lv_iload hx hb d_cTokens_scan_71 (lv_at hl 5 rfl) ?_
              obtain ⟨q73, hc73, h⟩ := Option.bind_eq_some_iff.mp h
              refine ck_S (As := [.int a32]) (rest := [.ref (b + 3)]) (st1 := [.int q73, .ref (b + 3)]) (M_cTokens_sortOf  hc73) t_449 t_450 t_451 t_3 hx hb hts hown hC hX hS  hml hl.1 ⟨by rw [hRf]; decide, by rw [hRl]; decide⟩ ⟨rfl, rfl⟩ (n := 1) (by decide +kernel) rfl rfl rfl (lv_room (Nat.le_of_ble_eq_true rfl)) d_cTokens_scan_73 (fun H locs hX hS => ?_)
              refine lv_iload hx hb d_cTokens_scan_76 (lv_at hl 4 rfl) ?_
              refine lv_iload_n hx hb d_cTokens_scan_78 rfl (lv_at hl 0 rfl) ?_
              have J89 : ∀ (s0_89 : Int64) (H : Heap) (locs : List Loc) (ls : Array Slot), hp D cA b ad (S_15, T) H → va_S (Ab b) s.heap H locs → lv_has ls 6 [(0, .ref (b + 3)), (1, .ref (b + 1)), (2, .int x2), (3, .int (bI q59)), (4, .int v4_15)] → cTokens_scan_J89 (cTokens_scan_L15 x2 n15) x2 q59 v4_15 s0_89 v4_15 q73 S_15 = some rr → W p l e R s m args below meth c H locs 0 0 Q (F0 m 89 ls [.long s0_89, .int v4_15, .int q73, .ref (b + 3)]) := by
                intro s0_89 H locs ls  hX hS hl h
                rw [cTokens_scan_J89] at h
                obtain ⟨q89, hc89, h⟩ := Option.bind_eq_some_iff.mp h
                refine ck_V (As := [.int q73, .int v4_15, .long s0_89]) (rest := []) (st1 := []) (M_cTokens_add  hc89) t_539 t_541 p_4 t_542 t_3 hx hb hts hown hC hX hS (hrc_c3 hC hX (by rfl)) hml hl.1 ⟨by rw [hRf]; decide, by rw [hRl]; decide⟩ ⟨rfl, rfl⟩ (n := 3) (by decide +kernel) rfl rfl rfl (lv_room (Nat.le_of_ble_eq_true rfl)) d_cTokens_scan_89 (fun H locs hX hS => ?_)
                obtain ⟨a92, e92, h⟩ := bd_some h
                refine lv_iinc (v := a92) (lv' := [(4, .int a92), (0, .ref (b + 3)), (1, .ref (b + 1)), (2, .int x2), (3, .int (bI q59))]) hx hb d_cTokens_scan_92 hl (k := 4) rfl e92.symm (by decide) rfl (fun ls hl => ?_)
                refine lv_goto hx hb d_cTokens_scan_95 (tgt := 15) (by decide) ?_
                exact ih15 q59 a92 q89 H locs ls  hX hS (lv_sub hl [1, 2, 3, 4, 0] rfl) h
              refine lz_ifeq hx hb d_cTokens_scan_79 (tgt := 88) (by decide) (fun hc => ?_) (fun hc => ?_)
              · rw [if_neg hc] at h
                refine lv_lconst (v := 0) hx hb d_cTokens_scan_88 (by decide) ?_
                exact J89 0 H locs ls  hX hS (lv_sub hl [1, 2, 3, 0, 4] rfl) h
              · rw [if_pos hc] at h
                refine lv_iload hx hb d_cTokens_scan_82 (lv_at hl 5 rfl) ?_
                refine lv_i2l (v := ((a32).toInt64)) hx hb d_cTokens_scan_84 rfl ?_
                refine lv_goto hx hb d_cTokens_scan_85 (tgt := 89) (by decide) ?_
                exact J89 ((a32).toInt64) H locs ls  hX hS (lv_sub hl [1, 2, 3, 0, 4] rfl) h
          refine lz_ifeq hx hb d_cTokens_scan_35 (tgt := 57) (by decide) (fun hc => ?_) (fun hc => ?_)
          · rw [if_neg hc] at h
            exact J57  H locs ls  hX hS (lv_sub hl [1, 2, 3, 5, 0] rfl) h
          · rw [if_pos hc] at h
            refine lv_iload hx hb d_cTokens_scan_38 (lv_at hl 0 rfl) ?_
            obtain ⟨q40, hc40, h⟩ := Option.bind_eq_some_iff.mp h
            refine ck_S (As := [.int a32]) (rest := []) (st1 := [.int (bI q40)]) (M_cTokens_isOfName  hc40) t_439 t_440 t_441 t_3 hx hb hts hown hC hX hS  hml hl.1 ⟨by rw [hRf]; decide, by rw [hRl]; decide⟩ ⟨rfl, rfl⟩ (n := 1) (by decide +kernel) rfl rfl rfl (lv_room (Nat.le_of_ble_eq_true rfl)) d_cTokens_scan_40 (fun H locs hX hS => ?_)
            refine lz_ifeq hx hb d_cTokens_scan_43 (tgt := 57) (by decide) (fun hc => ?_) (fun hc => ?_)
            · rw [if_neg hc] at h
              exact J57  H locs ls  hX hS (lv_sub hl [1, 2, 3, 5, 0] rfl) h
            · rw [if_pos hc] at h
              refine lv_aload_n hx hb d_cTokens_scan_46 rfl (lv_at hl 1 rfl) ?_
              refine lv_iload hx hb d_cTokens_scan_47 (lv_at hl 0 rfl) ?_
              refine lv_iload hx hb d_cTokens_scan_49 (lv_at hl 5 rfl) ?_
              obtain ⟨q51, hc51, h⟩ := Option.bind_eq_some_iff.mp h
              refine ck_V (As := [.int a32, .int v4_15]) (rest := []) (st1 := []) (M_cTokens_extend  hc51) t_445 t_447 p_3 t_448 t_3 hx hb hts hown hC hX hS (hrc_c3 hC hX (by rfl)) hml hl.1 ⟨by rw [hRf]; decide, by rw [hRl]; decide⟩ ⟨rfl, rfl⟩ (n := 2) (by decide +kernel) rfl rfl rfl (lv_room (Nat.le_of_ble_eq_true rfl)) d_cTokens_scan_51 (fun H locs hX hS => ?_)
              refine lv_goto hx hb d_cTokens_scan_54 (tgt := 92) (by decide) ?_
              obtain ⟨a92, e92, h⟩ := bd_some h
              refine lv_iinc (v := a92) (lv' := [(4, .int a92), (5, .int a32), (0, .ref (b + 3)), (1, .ref (b + 1)), (2, .int x2), (3, .int (bI v3_15))]) hx hb d_cTokens_scan_92 hl (k := 5) rfl e92.symm (by decide) rfl (fun ls hl => ?_)
              refine lv_goto hx hb d_cTokens_scan_95 (tgt := 15) (by decide) ?_
              exact ih15 v3_15 a92 q51 H locs ls  hX hS (lv_sub hl [2, 3, 4, 5, 0] rfl) h
  exact L15 600 false 0 S7 H locs ls  hX hS (lv_sub hl [2, 3, 4, 1, 0] rfl) h
abbrev y_cTokens_is : MethodName := ({ cls := "TypeGuard$Tokens", name := "is", desc := "(C)Z" } : Jvm.MethodName)
theorem d_cTokens_is_0 : decode prog_9_method_3_code 0 = .ok (.aload_n 0, 1) := by decide +kernel
theorem d_cTokens_is_1 : decode prog_9_method_3_code 1 = .ok (.getfield 9, 3) := by decide +kernel
theorem d_cTokens_is_4 : decode prog_9_method_3_code 4 = .ok (.aload_n 0, 1) := by decide +kernel
theorem d_cTokens_is_5 : decode prog_9_method_3_code 5 = .ok (.getfield 27, 3) := by decide +kernel
theorem d_cTokens_is_8 : decode prog_9_method_3_code 8 = .ok (.caload, 1) := by decide +kernel
theorem d_cTokens_is_9 : decode prog_9_method_3_code 9 = .ok (.iload_n 1, 1) := by decide +kernel
theorem d_cTokens_is_10 : decode prog_9_method_3_code 10 = .ok (.if_icmp .ne 7, 3) := by decide +kernel
theorem d_cTokens_is_13 : decode prog_9_method_3_code 13 = .ok (.iconst 1, 1) := by decide +kernel
theorem d_cTokens_is_14 : decode prog_9_method_3_code 14 = .ok (.goto 4, 3) := by decide +kernel
theorem d_cTokens_is_17 : decode prog_9_method_3_code 17 = .ok (.iconst 0, 1) := by decide +kernel
theorem d_cTokens_is_18 : decode prog_9_method_3_code 18 = .ok (.ireturn, 1) := by decide +kernel
def cTokens_is (x1 : Int32) (S : CS) : Option Bool := (if inbd (gI S 3 4) 481 = true then (if (gI S 4 (txN (gI S 3 4))) = x1 then some true else some false) else none)
set_option maxHeartbeats 4000000 in
set_option maxRecDepth 100000 in
theorem M_cTokens_is {l : Launch} {D : va_G} {cA : Nat → ClassId} {b : Nat} {ad : Nat → Nat} {x1 : Int32} {S : CS} {T : MS × (Nat → Int64)} {rr : Bool}  (h : cTokens_is x1 S = some rr) : Met l y_cTokens_is (Cond.code y_cTokens_is prog_9_method_3_code 2 (Option.some Jvm.ClassFile.FieldType.boolean) :: TW) { frames := 0, cells := 0, slots := 0, locals := 0 } (va_Pc [.ref (b + 3), .int x1] (Rp D cA b ad (S, T))) (Qr D cA b ad (S, T) (some (.int (bI rr)))) 0 0 (Ab b) := by
  refine Ct_of (by decide) (Nat.le_of_ble_eq_true rfl) ?_
  intro p e R s m args below meth c ls Q H locs hR hQ hx hb hts hown hml hr hlk hC hX hS hl
  have hRf : R.frames = 0 := by rw [hR]
  have hRl : R.locals = 0 := by rw [hR]
  have hown : s.vm.findClass "TypeGuard$Tokens" = some m.cls := hown
  have hl : lv_has ls 2 [(0, .ref (b + 3)), (1, .int x1)] := hl
  rw [cTokens_is] at h
  refine lv_aload_n hx hb d_cTokens_is_0 rfl (lv_at hl 0 rfl) ?_
  refine c_get_3_0 hx hb hts hown hC hX (by rfl) (hts _ t_47) d_cTokens_is_1 ?_
  refine lv_aload_n hx hb d_cTokens_is_4 rfl (lv_at hl 0 rfl) ?_
  refine c_get_3_4 hx hb hts hown hC hX (by rfl) (hts _ t_51) d_cTokens_is_5 ?_
  by_cases hg8 : inbd (gI S 3 4) 481 = true
  rotate_left; · rw [if_neg hg8] at h; cases h
  rw [if_pos hg8] at h
  refine c_ald_4 (k := 4) hx hb hC hX (by rfl) hg8 d_cTokens_is_8 ?_
  refine lv_iload_n hx hb d_cTokens_is_9 rfl (lv_at hl 1 rfl) ?_
  refine lv_icmp_ne hx hb d_cTokens_is_10 (tgt := 17) (by decide) (fun hc => ?_) (fun hc => ?_)
  · rw [if_neg hc] at h
    refine lv_iconst (v := 0) hx hb d_cTokens_is_17 (by decide) ?_
    obtain rfl := Option.some.inj h
    exact rt_zf hQ hx hb hr hX hS hlk d_cTokens_is_18
  · rw [if_pos hc] at h
    refine lv_iconst (v := 1) hx hb d_cTokens_is_13 (by decide) ?_
    refine lv_goto hx hb d_cTokens_is_14 (tgt := 18) (by decide) ?_
    obtain rfl := Option.some.inj h
    exact rt_zt hQ hx hb hr hX hS hlk d_cTokens_is_18
abbrev y_cReader_isDone : MethodName := ({ cls := "TypeGuard$Reader", name := "isDone", desc := "()Z" } : Jvm.MethodName)
theorem d_cReader_isDone_0 : decode prog_7_method_4_code 0 = .ok (.aload_n 0, 1) := by decide +kernel
theorem d_cReader_isDone_1 : decode prog_7_method_4_code 1 = .ok (.getfield 32, 3) := by decide +kernel
theorem d_cReader_isDone_4 : decode prog_7_method_4_code 4 = .ok (.iconst (-1), 1) := by decide +kernel
theorem d_cReader_isDone_5 : decode prog_7_method_4_code 5 = .ok (.if_icmp .ne 19, 3) := by decide +kernel
theorem d_cReader_isDone_8 : decode prog_7_method_4_code 8 = .ok (.aload_n 0, 1) := by decide +kernel
theorem d_cReader_isDone_9 : decode prog_7_method_4_code 9 = .ok (.getfield 12, 3) := by decide +kernel
theorem d_cReader_isDone_12 : decode prog_7_method_4_code 12 = .ok (.bipush 32, 2) := by decide +kernel
theorem d_cReader_isDone_14 : decode prog_7_method_4_code 14 = .ok (.invokevirtual 59, 3) := by decide +kernel
theorem d_cReader_isDone_17 : decode prog_7_method_4_code 17 = .ok (.ifCond .eq 7, 3) := by decide +kernel
theorem d_cReader_isDone_20 : decode prog_7_method_4_code 20 = .ok (.iconst 1, 1) := by decide +kernel
theorem d_cReader_isDone_21 : decode prog_7_method_4_code 21 = .ok (.goto 4, 3) := by decide +kernel
theorem d_cReader_isDone_24 : decode prog_7_method_4_code 24 = .ok (.iconst 0, 1) := by decide +kernel
theorem d_cReader_isDone_25 : decode prog_7_method_4_code 25 = .ok (.ireturn, 1) := by decide +kernel
def cReader_isDone (S : CS) : Option Bool := (if (gI S 2 4) = (-1) then ((cTokens_is 32 S).bind fun q14 => (if q14 = true then some true else some false)) else some false)
set_option maxHeartbeats 4000000 in
set_option maxRecDepth 100000 in
theorem M_cReader_isDone {l : Launch} {D : va_G} {cA : Nat → ClassId} {b : Nat} {ad : Nat → Nat}  {S : CS} {T : MS × (Nat → Int64)} {rr : Bool}  (h : cReader_isDone  S = some rr) : Met l y_cReader_isDone (Cond.code y_cReader_isDone prog_7_method_4_code 1 (Option.some Jvm.ClassFile.FieldType.boolean) :: TW) { frames := 1, cells := 0, slots := 0, locals := 21 } (va_Pc [.ref (b + 2)] (Rp D cA b ad (S, T))) (Qr D cA b ad (S, T) (some (.int (bI rr)))) 0 0 (Ab b) := by
  refine Ct_of (by decide) (Nat.le_of_ble_eq_true rfl) ?_
  intro p e R s m args below meth c ls Q H locs hR hQ hx hb hts hown hml hr hlk hC hX hS hl
  have hRf : R.frames = 1 := by rw [hR]
  have hRl : R.locals = 21 := by rw [hR]
  have hown : s.vm.findClass "TypeGuard$Reader" = some m.cls := hown
  have hl : lv_has ls 1 [(0, .ref (b + 2))] := hl
  rw [cReader_isDone] at h
  refine lv_aload_n hx hb d_cReader_isDone_0 rfl (lv_at hl 0 rfl) ?_
  refine c_get_2_4 hx hb hts hown hC hX (by rfl) (hts _ t_233) d_cReader_isDone_1 ?_
  refine lv_iconst (v := (-1)) hx hb d_cReader_isDone_4 (by decide) ?_
  refine lv_icmp_ne hx hb d_cReader_isDone_5 (tgt := 24) (by decide) (fun hc => ?_) (fun hc => ?_)
  · rw [if_neg hc] at h
    refine lv_iconst (v := 0) hx hb d_cReader_isDone_24 (by decide) ?_
    obtain rfl := Option.some.inj h
    exact rt_zf hQ hx hb hr hX hS hlk d_cReader_isDone_25
  · rw [if_pos hc] at h
    refine lv_aload_n hx hb d_cReader_isDone_8 rfl (lv_at hl 0 rfl) ?_
    refine c_get_2_0 hx hb hts hown hC hX (by rfl) (hts _ t_227) d_cReader_isDone_9 ?_
    refine lv_bipush (v := 32) hx hb d_cReader_isDone_12 (by decide) ?_
    obtain ⟨q14, hc14, h⟩ := Option.bind_eq_some_iff.mp h
    refine ck_V (As := [.int 32]) (rest := []) (st1 := [.int (bI q14)]) (M_cTokens_is  hc14) t_547 t_548 t_549 t_550 t_3 hx hb hts hown hC hX hS (hrc_c3 hC hX (by rfl)) hml hl.1 ⟨by rw [hRf]; decide, by rw [hRl]; decide⟩ ⟨rfl, rfl⟩ (n := 1) (by decide +kernel) rfl rfl rfl (lv_room (Nat.le_of_ble_eq_true rfl)) d_cReader_isDone_14 (fun H locs hX hS => ?_)
    refine lz_ifeq hx hb d_cReader_isDone_17 (tgt := 24) (by decide) (fun hc => ?_) (fun hc => ?_)
    · rw [if_neg hc] at h
      refine lv_iconst (v := 0) hx hb d_cReader_isDone_24 (by decide) ?_
      obtain rfl := Option.some.inj h
      exact rt_zf hQ hx hb hr hX hS hlk d_cReader_isDone_25
    · rw [if_pos hc] at h
      refine lv_iconst (v := 1) hx hb d_cReader_isDone_20 (by decide) ?_
      refine lv_goto hx hb d_cReader_isDone_21 (tgt := 25) (by decide) ?_
      obtain rfl := Option.some.inj h
      exact rt_zt hQ hx hb hr hX hS hlk d_cReader_isDone_25
abbrev y_cWord_of : MethodName := ({ cls := "TypeGuard$Word", name := "of", desc := "(J)LTypeGuard$Word;" } : Jvm.MethodName)
theorem d_cWord_of_0 : decode prog_12_method_4_code 0 = .ok (.getstatic 82, 3) := by decide +kernel
theorem d_cWord_of_3 : decode prog_12_method_4_code 3 = .ok (.astore_n 2, 1) := by decide +kernel
theorem d_cWord_of_4 : decode prog_12_method_4_code 4 = .ok (.aload_n 2, 1) := by decide +kernel
theorem d_cWord_of_5 : decode prog_12_method_4_code 5 = .ok (.arraylength, 1) := by decide +kernel
theorem d_cWord_of_6 : decode prog_12_method_4_code 6 = .ok (.istore_n 3, 1) := by decide +kernel
theorem d_cWord_of_7 : decode prog_12_method_4_code 7 = .ok (.iconst 0, 1) := by decide +kernel
theorem d_cWord_of_8 : decode prog_12_method_4_code 8 = .ok (.istore 4, 2) := by decide +kernel
theorem d_cWord_of_10 : decode prog_12_method_4_code 10 = .ok (.iload 4, 2) := by decide +kernel
theorem d_cWord_of_12 : decode prog_12_method_4_code 12 = .ok (.iload_n 3, 1) := by decide +kernel
theorem d_cWord_of_13 : decode prog_12_method_4_code 13 = .ok (.if_icmp .ge 28, 3) := by decide +kernel
theorem d_cWord_of_16 : decode prog_12_method_4_code 16 = .ok (.aload_n 2, 1) := by decide +kernel
theorem d_cWord_of_17 : decode prog_12_method_4_code 17 = .ok (.iload 4, 2) := by decide +kernel
theorem d_cWord_of_19 : decode prog_12_method_4_code 19 = .ok (.aaload, 1) := by decide +kernel
theorem d_cWord_of_20 : decode prog_12_method_4_code 20 = .ok (.astore 5, 2) := by decide +kernel
theorem d_cWord_of_22 : decode prog_12_method_4_code 22 = .ok (.aload 5, 2) := by decide +kernel
theorem d_cWord_of_24 : decode prog_12_method_4_code 24 = .ok (.getfield 78, 3) := by decide +kernel
theorem d_cWord_of_27 : decode prog_12_method_4_code 27 = .ok (.lload_n 0, 1) := by decide +kernel
theorem d_cWord_of_28 : decode prog_12_method_4_code 28 = .ok (.lcmp, 1) := by decide +kernel
theorem d_cWord_of_29 : decode prog_12_method_4_code 29 = .ok (.ifCond .ne 6, 3) := by decide +kernel
theorem d_cWord_of_32 : decode prog_12_method_4_code 32 = .ok (.aload 5, 2) := by decide +kernel
theorem d_cWord_of_34 : decode prog_12_method_4_code 34 = .ok (.areturn, 1) := by decide +kernel
theorem d_cWord_of_35 : decode prog_12_method_4_code 35 = .ok (.iinc 4 1, 3) := by decide +kernel
theorem d_cWord_of_38 : decode prog_12_method_4_code 38 = .ok (.goto (-28), 3) := by decide +kernel
theorem d_cWord_of_41 : decode prog_12_method_4_code 41 = .ok (.getstatic 3, 3) := by decide +kernel
theorem d_cWord_of_44 : decode prog_12_method_4_code 44 = .ok (.areturn, 1) := by decide +kernel
def cWord_of_L10 (v0_10 : Int64) (v3_10 : Int32) : Nat → Int32 → Option Nat
  | 0, _ => none
  | n + 1, v4_10 => (if v3_10 ≤ v4_10 then some 0 else (if inbd v4_10 15 = true then (bd ((txN v4_10)) fun a19 => (if (wC a19) = v0_10 then some a19 else (bd ((v4_10 + 1)) fun a35 => (cWord_of_L10 v0_10 v3_10 n) a35))) else none))
def cWord_of (x0 : Int64) : Option Nat := cWord_of_L10 x0 15 600 0
set_option maxHeartbeats 4000000 in
set_option maxRecDepth 100000 in
theorem M_cWord_of {l : Launch} {D : va_G} {cA : Nat → ClassId} {b : Nat} {ad : Nat → Nat} {x0 : Int64} {S : CS} {T : MS × (Nat → Int64)} {rr : Nat}  (h : cWord_of x0 = some rr) : Met l y_cWord_of (Cond.code y_cWord_of prog_12_method_4_code 6 (Option.some (Jvm.ClassFile.FieldType.object "TypeGuard$Word")) :: TW) { frames := 0, cells := 0, slots := 0, locals := 0 } (va_Pc [.long x0] (Rp D cA b ad (S, T))) (Qr D cA b ad (S, T) (some (.ref (ad rr)))) 0 0 (Ab b) := by
  refine Ct_of (by decide) (Nat.le_of_ble_eq_true rfl) ?_
  intro p e R s m args below meth c ls Q H locs hR hQ hx hb hts hown hml hr hlk hC hX hS hl
  have hRf : R.frames = 0 := by rw [hR]
  have hRl : R.locals = 0 := by rw [hR]
  have hown : s.vm.findClass "TypeGuard$Word" = some m.cls := hown
  have hl : lv_has ls 6 [(0, .long x0)] := hl
  rw [cWord_of] at h
  refine st_ALL hx hb hC hS hown (hts _ t_562) d_cWord_of_0 ?_
  refine lv_astore_n (lv' := [(2, .ref (ad 15)), (0, .long x0)]) hx hb d_cWord_of_3 rfl hl (by decide) rfl (fun ls hl => ?_)
  refine lv_aload_n hx hb d_cWord_of_4 rfl (lv_at hl 0 rfl) ?_
  refine st_alen hx hb hC hS d_cWord_of_5 ?_
  refine lv_istore_n (lv' := [(3, .int 15), (2, .ref (ad 15)), (0, .long x0)]) hx hb d_cWord_of_6 rfl hl (by decide) rfl (fun ls hl => ?_)
  refine lv_iconst (v := 0) hx hb d_cWord_of_7 (by decide) ?_
  refine lv_istore (lv' := [(4, .int 0), (3, .int 15), (2, .ref (ad 15)), (0, .long x0)]) hx hb d_cWord_of_8 hl (by decide) rfl (fun ls hl => ?_)
  have L10 : ∀ (n10 : Nat) (v4_10 : Int32) (H : Heap) (locs : List Loc) (ls : Array Slot), hp D cA b ad (S, T) H → va_S (Ab b) s.heap H locs → lv_has ls 6 [(0, .long x0), (2, .ref (ad 15)), (3, .int 15), (4, .int v4_10)] → cWord_of_L10 x0 15 n10 v4_10 = some rr → W p l e R s m args below meth c H locs 0 0 Q (F0 m 10 ls []) := by
    intro n10; induction n10 with
    | zero => intro v4_10 H locs ls  hX hS hl h; rw [cWord_of_L10] at h; cases h
    | succ n10 ih10 =>
      intro v4_10 H locs ls  hX hS hl h
      rw [cWord_of_L10] at h
      refine lv_iload hx hb d_cWord_of_10 (lv_at hl 3 rfl) ?_
      refine lv_iload_n hx hb d_cWord_of_12 rfl (lv_at hl 2 rfl) ?_
      refine lv_icmp_ge hx hb d_cWord_of_13 (tgt := 41) (by decide) (fun hc => ?_) (fun hc => ?_)
      · rw [if_pos hc] at h
        refine st_W (i := 0) hx hb hC hS hown (hts _ t_564) d_cWord_of_41 (by decide) ?_
        obtain rfl := Option.some.inj h
        exact rt_w hQ hx hb hr hX hS hlk d_cWord_of_44
      · rw [if_neg hc] at h
        refine lv_aload_n hx hb d_cWord_of_16 rfl (lv_at hl 1 rfl) ?_
        refine lv_iload hx hb d_cWord_of_17 (lv_at hl 3 rfl) ?_
        by_cases hg19 : inbd v4_10 15 = true
        rotate_left; · rw [if_neg hg19] at h; cases h
        rw [if_pos hg19] at h
        refine st_all hx hb hC hS hg19 d_cWord_of_19 ?_
        obtain ⟨a19, e19, h⟩ := bd_some h
        refine lt_W e19 ?_
        have hka19 := (inbd_lt hg19)
        rw [← e19] at hka19
        refine lv_astore (lv' := [(5, .ref (ad a19)), (0, .long x0), (2, .ref (ad 15)), (3, .int 15), (4, .int v4_10)]) hx hb d_cWord_of_20 hl (by decide) rfl (fun ls hl => ?_)
        refine lv_aload hx hb d_cWord_of_22 (lv_at hl 0 rfl) ?_
        refine st_code hx hb hC hS hown hka19 (hts _ t_1394) d_cWord_of_24 ?_
        refine lv_lload_n hx hb d_cWord_of_27 rfl (lv_at hl 1 rfl) ?_
        refine lx_ifne hx hb d_cWord_of_28 d_cWord_of_29 (tgt := 35) (by decide) (fun hc => ?_) (fun hc => ?_)
        · rw [if_neg hc] at h
          obtain ⟨a35, e35, h⟩ := bd_some h
          refine lv_iinc (v := a35) (lv' := [(4, .int a35), (5, .ref (ad a19)), (0, .long x0), (2, .ref (ad 15)), (3, .int 15)]) hx hb d_cWord_of_35 hl (k := 4) rfl e35.symm (by decide) rfl (fun ls hl => ?_)
          refine lv_goto hx hb d_cWord_of_38 (tgt := 10) (by decide) ?_
          exact ih10 a35 H locs ls  hX hS (lv_sub hl [2, 3, 4, 0] rfl) h
        · rw [if_pos hc] at h
          refine lv_aload hx hb d_cWord_of_32 (lv_at hl 0 rfl) ?_
          obtain rfl := Option.some.inj h
          exact rt_w hQ hx hb hr hX hS hlk d_cWord_of_34
  exact L10 600 0 H locs ls  hX hS (lv_sub hl [3, 2, 1, 0] rfl) h
abbrev y_cTokens_word : MethodName := ({ cls := "TypeGuard$Tokens", name := "word", desc := "()LTypeGuard$Word;" } : Jvm.MethodName)
theorem d_cTokens_word_0 : decode prog_9_method_5_code 0 = .ok (.aload_n 0, 1) := by decide +kernel
theorem d_cTokens_word_1 : decode prog_9_method_5_code 1 = .ok (.getfield 19, 3) := by decide +kernel
theorem d_cTokens_word_4 : decode prog_9_method_5_code 4 = .ok (.aload_n 0, 1) := by decide +kernel
theorem d_cTokens_word_5 : decode prog_9_method_5_code 5 = .ok (.getfield 27, 3) := by decide +kernel
theorem d_cTokens_word_8 : decode prog_9_method_5_code 8 = .ok (.laload, 1) := by decide +kernel
theorem d_cTokens_word_9 : decode prog_9_method_5_code 9 = .ok (.invokestatic 49, 3) := by decide +kernel
theorem d_cTokens_word_12 : decode prog_9_method_5_code 12 = .ok (.areturn, 1) := by decide +kernel
def cTokens_word (S : CS) : Option Nat := (if inbd (gI S 3 4) 481 = true then ((cWord_of (gL S 6 (txN (gI S 3 4)))).bind fun q9 => (if q9 < 15 then some q9 else none)) else none)
set_option maxHeartbeats 4000000 in
set_option maxRecDepth 100000 in
theorem M_cTokens_word {l : Launch} {D : va_G} {cA : Nat → ClassId} {b : Nat} {ad : Nat → Nat}  {S : CS} {T : MS × (Nat → Int64)} {rr : Nat}  (h : cTokens_word  S = some rr) : Met l y_cTokens_word (Cond.code y_cTokens_word prog_9_method_5_code 1 (Option.some (Jvm.ClassFile.FieldType.object "TypeGuard$Word")) :: TW) { frames := 1, cells := 0, slots := 0, locals := 25 } (va_Pc [.ref (b + 3)] (Rp D cA b ad (S, T))) (Qr D cA b ad (S, T) (some (.ref (ad rr)))) 0 0 (Ab b) := by
  refine Ct_of (by decide) (Nat.le_of_ble_eq_true rfl) ?_
  intro p e R s m args below meth c ls Q H locs hR hQ hx hb hts hown hml hr hlk hC hX hS hl
  have hRf : R.frames = 1 := by rw [hR]
  have hRl : R.locals = 25 := by rw [hR]
  have hown : s.vm.findClass "TypeGuard$Tokens" = some m.cls := hown
  have hl : lv_has ls 1 [(0, .ref (b + 3))] := hl
  rw [cTokens_word] at h
  refine lv_aload_n hx hb d_cTokens_word_0 rfl (lv_at hl 0 rfl) ?_
  refine c_get_3_2 hx hb hts hown hC hX (by rfl) (hts _ t_49) d_cTokens_word_1 ?_
  refine lv_aload_n hx hb d_cTokens_word_4 rfl (lv_at hl 0 rfl) ?_
  refine c_get_3_4 hx hb hts hown hC hX (by rfl) (hts _ t_51) d_cTokens_word_5 ?_
  by_cases hg8 : inbd (gI S 3 4) 481 = true
  rotate_left; · rw [if_neg hg8] at h; cases h
  rw [if_pos hg8] at h
  refine c_ald_6 (k := 6) hx hb hC hX (by rfl) hg8 d_cTokens_word_8 ?_
  obtain ⟨q9, hc9, h⟩ := Option.bind_eq_some_iff.mp h
  refine ck_S (As := [.long (gL S 6 (txN (gI S 3 4)))]) (rest := []) (st1 := [.ref (ad q9)]) (M_cWord_of  hc9) t_559 t_560 t_561 t_8 hx hb hts hown hC hX hS  hml hl.1 ⟨by rw [hRf]; decide, by rw [hRl]; decide⟩ ⟨rfl, rfl⟩ (n := 1) (by decide +kernel) rfl rfl rfl (lv_room (Nat.le_of_ble_eq_true rfl)) d_cTokens_word_9 (fun H locs hX hS => ?_)
  by_cases hkq9 : q9 < 15
  rotate_left; · rw [if_neg hkq9] at h; cases h
  rw [if_pos hkq9] at h
  obtain rfl := Option.some.inj h
  exact rt_w hQ hx hb hr hX hS hlk d_cTokens_word_12
abbrev y_cReader_refuse : MethodName := ({ cls := "TypeGuard$Reader", name := "refuse", desc := "(I)Z" } : Jvm.MethodName)
theorem d_cReader_refuse_0 : decode prog_7_method_6_code 0 = .ok (.aload_n 0, 1) := by decide +kernel
theorem d_cReader_refuse_1 : decode prog_7_method_6_code 1 = .ok (.iload_n 1, 1) := by decide +kernel
theorem d_cReader_refuse_2 : decode prog_7_method_6_code 2 = .ok (.putfield 25, 3) := by decide +kernel
theorem d_cReader_refuse_5 : decode prog_7_method_6_code 5 = .ok (.iconst 0, 1) := by decide +kernel
theorem d_cReader_refuse_6 : decode prog_7_method_6_code 6 = .ok (.ireturn, 1) := by decide +kernel
def cReader_refuse (x1 : Int32) (S : CS) : Option (CS × Bool) := (bd (pI S 2 2 x1) fun S2 => some (S2, false))
set_option maxHeartbeats 4000000 in
set_option maxRecDepth 100000 in
theorem M_cReader_refuse {l : Launch} {D : va_G} {cA : Nat → ClassId} {b : Nat} {ad : Nat → Nat} {x1 : Int32} {S : CS} {T : MS × (Nat → Int64)} {rr : (CS × Bool)}  (h : cReader_refuse x1 S = some rr) : Met l y_cReader_refuse (Cond.code y_cReader_refuse prog_7_method_6_code 2 (Option.some Jvm.ClassFile.FieldType.boolean) :: TW) { frames := 0, cells := 0, slots := 0, locals := 0 } (va_Pc [.ref (b + 2), .int x1] (Rp D cA b ad (S, T))) (Qr D cA b ad (rr.1, T) (some (.int (bI rr.2)))) 0 0 (Ab b) := by
  refine Ct_of (by decide) (Nat.le_of_ble_eq_true rfl) ?_
  intro p e R s m args below meth c ls Q H locs hR hQ hx hb hts hown hml hr hlk hC hX hS hl
  have hRf : R.frames = 0 := by rw [hR]
  have hRl : R.locals = 0 := by rw [hR]
  have hown : s.vm.findClass "TypeGuard$Reader" = some m.cls := hown
  have hl : lv_has ls 2 [(0, .ref (b + 2)), (1, .int x1)] := hl
  rw [cReader_refuse] at h
  refine lv_aload_n hx hb d_cReader_refuse_0 rfl (lv_at hl 0 rfl) ?_
  refine lv_iload_n hx hb d_cReader_refuse_1 rfl (lv_at hl 1 rfl) ?_
  refine c_put_2_2 (v := x1) hx hb hts hown hC hX hS (by rfl) (hts _ t_229) d_cReader_refuse_2 (fun H locs hX hS => ?_)
  obtain ⟨S2, e2, h⟩ := bd_some h
  rw [← e2] at hX
  refine lv_iconst (v := 0) hx hb d_cReader_refuse_5 (by decide) ?_
  obtain rfl := Option.some.inj h
  exact rt_zf hQ hx hb hr hX hS hlk d_cReader_refuse_6
abbrev y_cTokens_place : MethodName := ({ cls := "TypeGuard$Tokens", name := "place", desc := "()I" } : Jvm.MethodName)
theorem d_cTokens_place_0 : decode prog_9_method_6_code 0 = .ok (.aload_n 0, 1) := by decide +kernel
theorem d_cTokens_place_1 : decode prog_9_method_6_code 1 = .ok (.getfield 15, 3) := by decide +kernel
theorem d_cTokens_place_4 : decode prog_9_method_6_code 4 = .ok (.aload_n 0, 1) := by decide +kernel
theorem d_cTokens_place_5 : decode prog_9_method_6_code 5 = .ok (.getfield 27, 3) := by decide +kernel
theorem d_cTokens_place_8 : decode prog_9_method_6_code 8 = .ok (.iaload, 1) := by decide +kernel
theorem d_cTokens_place_9 : decode prog_9_method_6_code 9 = .ok (.ireturn, 1) := by decide +kernel
def cTokens_place (S : CS) : Option Int32 := (if inbd (gI S 3 4) 481 = true then some (gI S 5 (txN (gI S 3 4))) else none)
set_option maxHeartbeats 4000000 in
set_option maxRecDepth 100000 in
theorem M_cTokens_place {l : Launch} {D : va_G} {cA : Nat → ClassId} {b : Nat} {ad : Nat → Nat}  {S : CS} {T : MS × (Nat → Int64)} {rr : Int32}  (h : cTokens_place  S = some rr) : Met l y_cTokens_place (Cond.code y_cTokens_place prog_9_method_6_code 1 (Option.some Jvm.ClassFile.FieldType.int) :: TW) { frames := 0, cells := 0, slots := 0, locals := 0 } (va_Pc [.ref (b + 3)] (Rp D cA b ad (S, T))) (Qr D cA b ad (S, T) (some (.int rr))) 0 0 (Ab b) := by
  refine Ct_of (by decide) (Nat.le_of_ble_eq_true rfl) ?_
  intro p e R s m args below meth c ls Q H locs hR hQ hx hb hts hown hml hr hlk hC hX hS hl
  have hRf : R.frames = 0 := by rw [hR]
  have hRl : R.locals = 0 := by rw [hR]
  have hown : s.vm.findClass "TypeGuard$Tokens" = some m.cls := hown
  have hl : lv_has ls 1 [(0, .ref (b + 3))] := hl
  rw [cTokens_place] at h
  refine lv_aload_n hx hb d_cTokens_place_0 rfl (lv_at hl 0 rfl) ?_
  refine c_get_3_1 hx hb hts hown hC hX (by rfl) (hts _ t_48) d_cTokens_place_1 ?_
  refine lv_aload_n hx hb d_cTokens_place_4 rfl (lv_at hl 0 rfl) ?_
  refine c_get_3_4 hx hb hts hown hC hX (by rfl) (hts _ t_51) d_cTokens_place_5 ?_
  by_cases hg8 : inbd (gI S 3 4) 481 = true
  rotate_left; · rw [if_neg hg8] at h; cases h
  rw [if_pos hg8] at h
  refine c_ald_5 (k := 5) hx hb hC hX (by rfl) hg8 d_cTokens_place_8 ?_
  obtain rfl := Option.some.inj h
  exact rt_i hQ hx hb hr hX hS hlk d_cTokens_place_9
abbrev y_cRule_begin : MethodName := ({ cls := "TypeGuard$Rule", name := "begin", desc := "(LTypeGuard$Word;IIZ)V" } : Jvm.MethodName)
theorem d_cRule_begin_0 : decode prog_8_method_2_code 0 = .ok (.aload_n 0, 1) := by decide +kernel
theorem d_cRule_begin_1 : decode prog_8_method_2_code 1 = .ok (.aload_n 1, 1) := by decide +kernel
theorem d_cRule_begin_2 : decode prog_8_method_2_code 2 = .ok (.putfield 15, 3) := by decide +kernel
theorem d_cRule_begin_5 : decode prog_8_method_2_code 5 = .ok (.aload_n 0, 1) := by decide +kernel
theorem d_cRule_begin_6 : decode prog_8_method_2_code 6 = .ok (.iload_n 2, 1) := by decide +kernel
theorem d_cRule_begin_7 : decode prog_8_method_2_code 7 = .ok (.putfield 41, 3) := by decide +kernel
theorem d_cRule_begin_10 : decode prog_8_method_2_code 10 = .ok (.aload_n 0, 1) := by decide +kernel
theorem d_cRule_begin_11 : decode prog_8_method_2_code 11 = .ok (.iload_n 3, 1) := by decide +kernel
theorem d_cRule_begin_12 : decode prog_8_method_2_code 12 = .ok (.putfield 20, 3) := by decide +kernel
theorem d_cRule_begin_15 : decode prog_8_method_2_code 15 = .ok (.aload_n 0, 1) := by decide +kernel
theorem d_cRule_begin_16 : decode prog_8_method_2_code 16 = .ok (.iload 4, 2) := by decide +kernel
theorem d_cRule_begin_18 : decode prog_8_method_2_code 18 = .ok (.putfield 44, 3) := by decide +kernel
theorem d_cRule_begin_21 : decode prog_8_method_2_code 21 = .ok (.aload_n 0, 1) := by decide +kernel
theorem d_cRule_begin_22 : decode prog_8_method_2_code 22 = .ok (.getfield 27, 3) := by decide +kernel
theorem d_cRule_begin_25 : decode prog_8_method_2_code 25 = .ok (.invokevirtual 48, 3) := by decide +kernel
theorem d_cRule_begin_28 : decode prog_8_method_2_code 28 = .ok (.aload_n 0, 1) := by decide +kernel
theorem d_cRule_begin_29 : decode prog_8_method_2_code 29 = .ok (.getfield 31, 3) := by decide +kernel
theorem d_cRule_begin_32 : decode prog_8_method_2_code 32 = .ok (.invokevirtual 48, 3) := by decide +kernel
theorem d_cRule_begin_35 : decode prog_8_method_2_code 35 = .ok (.aload_n 0, 1) := by decide +kernel
theorem d_cRule_begin_36 : decode prog_8_method_2_code 36 = .ok (.iconst 0, 1) := by decide +kernel
theorem d_cRule_begin_37 : decode prog_8_method_2_code 37 = .ok (.putfield 51, 3) := by decide +kernel
theorem d_cRule_begin_40 : decode prog_8_method_2_code 40 = .ok (.iconst 0, 1) := by decide +kernel
theorem d_cRule_begin_41 : decode prog_8_method_2_code 41 = .ok (.istore 5, 2) := by decide +kernel
theorem d_cRule_begin_43 : decode prog_8_method_2_code 43 = .ok (.iload 5, 2) := by decide +kernel
theorem d_cRule_begin_45 : decode prog_8_method_2_code 45 = .ok (.iconst 4, 1) := by decide +kernel
theorem d_cRule_begin_46 : decode prog_8_method_2_code 46 = .ok (.if_icmp .ge 17, 3) := by decide +kernel
theorem d_cRule_begin_49 : decode prog_8_method_2_code 49 = .ok (.aload_n 0, 1) := by decide +kernel
theorem d_cRule_begin_50 : decode prog_8_method_2_code 50 = .ok (.getfield 34, 3) := by decide +kernel
theorem d_cRule_begin_53 : decode prog_8_method_2_code 53 = .ok (.iload 5, 2) := by decide +kernel
theorem d_cRule_begin_55 : decode prog_8_method_2_code 55 = .ok (.iconst 0, 1) := by decide +kernel
theorem d_cRule_begin_56 : decode prog_8_method_2_code 56 = .ok (.iastore, 1) := by decide +kernel
theorem d_cRule_begin_57 : decode prog_8_method_2_code 57 = .ok (.iinc 5 1, 3) := by decide +kernel
theorem d_cRule_begin_60 : decode prog_8_method_2_code 60 = .ok (.goto (-17), 3) := by decide +kernel
theorem d_cRule_begin_63 : decode prog_8_method_2_code 63 = .ok (.return_, 1) := by decide +kernel
def cRule_begin_L43 (v0_43 : Nat) : Nat → Int32 → CS → Option CS
  | 0, _, _ => none
  | n + 1, v5_43, S_43 => (if 4 ≤ v5_43 then some S_43 else (if inbd v5_43 4 = true then (bd (pI S_43 (v0_43 + 3) (txN v5_43) 0) fun S56 => (bd ((v5_43 + 1)) fun a57 => (cRule_begin_L43 v0_43 n) a57 S56)) else none))
def cRule_begin (k0 : Nat) (x1 : Nat) (x2 : Int32) (x3 : Int32) (x4 : Bool) (S : CS) : Option CS := (bd (pR S k0 0 x1) fun S2 => (bd (pI S2 k0 1 x2) fun S7 => (bd (pI S7 k0 2 x3) fun S12 => (bd (pB S12 k0 3 x4) fun S18 => ((cTypeSet_clearNames (k0 + 1) S18).bind fun q25 => ((cTypeSet_clearNames (k0 + 2) q25).bind fun q32 => (bd (pI q32 k0 9 0) fun S37 => cRule_begin_L43 k0 600 0 S37)))))))
set_option maxHeartbeats 4000000 in
set_option maxRecDepth 100000 in
theorem M_cRule_begin {l : Launch} {D : va_G} {cA : Nat → ClassId} {b : Nat} {ad : Nat → Nat} {k0 : Nat} {x1 : Nat} {x2 : Int32} {x3 : Int32} {x4 : Bool} {S : CS} {T : MS × (Nat → Int64)} {rr : CS} (hk0 : kd k0 = 14) (hk1 : x1 < 15) (h : cRule_begin k0 x1 x2 x3 x4 S = some rr) : Met l y_cRule_begin (Cond.code y_cRule_begin prog_8_method_2_code 6 (Option.none : Option Jvm.ClassFile.FieldType) :: TW) { frames := 1, cells := 0, slots := 0, locals := 20 } (va_Pc [.ref (b + k0), .ref (ad x1), .int x2, .int x3, .int (bI x4)] (Rp D cA b ad (S, T))) (Qr D cA b ad (rr, T) none) 0 0 (Ab b) := by
  refine Ct_of (by decide) (Nat.le_of_ble_eq_true rfl) ?_
  intro p e R s m args below meth c ls Q H locs hR hQ hx hb hts hown hml hr hlk hC hX hS hl
  have hRf : R.frames = 1 := by rw [hR]
  have hRl : R.locals = 20 := by rw [hR]
  have hown : s.vm.findClass "TypeGuard$Rule" = some m.cls := hown
  have hl : lv_has ls 6 [(0, .ref (b + k0)), (1, .ref (ad x1)), (2, .int x2), (3, .int x3), (4, .int (bI x4))] := hl
  rw [cRule_begin] at h
  refine lv_aload_n hx hb d_cRule_begin_0 rfl (lv_at hl 0 rfl) ?_
  refine lv_aload_n hx hb d_cRule_begin_1 rfl (lv_at hl 1 rfl) ?_
  refine c_put_14_0 (k := k0) (v := x1) hx hb hts hown hC hX hS hk0 (hts _ t_130) d_cRule_begin_2 (fun H locs hX hS => ?_)
  obtain ⟨S2, e2, h⟩ := bd_some h
  rw [← e2] at hX
  refine lv_aload_n hx hb d_cRule_begin_5 rfl (lv_at hl 0 rfl) ?_
  refine lv_iload_n hx hb d_cRule_begin_6 rfl (lv_at hl 2 rfl) ?_
  refine c_put_14_1 (k := k0) (v := x2) hx hb hts hown hC hX hS hk0 (hts _ t_132) d_cRule_begin_7 (fun H locs hX hS => ?_)
  obtain ⟨S7, e7, h⟩ := bd_some h
  rw [← e7] at hX
  refine lv_aload_n hx hb d_cRule_begin_10 rfl (lv_at hl 0 rfl) ?_
  refine lv_iload_n hx hb d_cRule_begin_11 rfl (lv_at hl 3 rfl) ?_
  refine c_put_14_2 (k := k0) (v := x3) hx hb hts hown hC hX hS hk0 (hts _ t_135) d_cRule_begin_12 (fun H locs hX hS => ?_)
  obtain ⟨S12, e12, h⟩ := bd_some h
  rw [← e12] at hX
  refine lv_aload_n hx hb d_cRule_begin_15 rfl (lv_at hl 0 rfl) ?_
  refine lv_iload hx hb d_cRule_begin_16 (lv_at hl 4 rfl) ?_
  refine c_put_14_3 (k := k0) (v := x4) hx hb hts hown hC hX hS hk0 (hts _ t_137) d_cRule_begin_18 (fun H locs hX hS => ?_)
  obtain ⟨S18, e18, h⟩ := bd_some h
  rw [← e18] at hX
  refine lv_aload_n hx hb d_cRule_begin_21 rfl (lv_at hl 0 rfl) ?_
  refine c_get_14_4 (k := k0) hx hb hts hown hC hX hk0 (hts _ t_139) d_cRule_begin_22 ?_
  obtain ⟨q25, hc25, h⟩ := Option.bind_eq_some_iff.mp h
  refine ck_V (As := []) (rest := []) (st1 := []) (M_cTypeSet_clearNames (kx_14_1 hk0) hc25) t_587 t_588 t_589 t_590 t_9 hx hb hts hown hC hX hS (hrc_c15 hC hX (kx_14_1 hk0)) hml hl.1 ⟨by rw [hRf]; decide, by rw [hRl]; decide⟩ ⟨rfl, rfl⟩ (n := 0) (by decide +kernel) rfl rfl rfl (lv_room (Nat.le_of_ble_eq_true rfl)) d_cRule_begin_25 (fun H locs hX hS => ?_)
  refine lv_aload_n hx hb d_cRule_begin_28 rfl (lv_at hl 0 rfl) ?_
  refine c_get_14_5 (k := k0) hx hb hts hown hC hX hk0 (hts _ t_142) d_cRule_begin_29 ?_
  obtain ⟨q32, hc32, h⟩ := Option.bind_eq_some_iff.mp h
  refine ck_V (As := []) (rest := []) (st1 := []) (M_cTypeSet_clearNames (kx_14_2 hk0) hc32) t_587 t_588 t_589 t_590 t_9 hx hb hts hown hC hX hS (hrc_c15 hC hX (kx_14_2 hk0)) hml hl.1 ⟨by rw [hRf]; decide, by rw [hRl]; decide⟩ ⟨rfl, rfl⟩ (n := 0) (by decide +kernel) rfl rfl rfl (lv_room (Nat.le_of_ble_eq_true rfl)) d_cRule_begin_32 (fun H locs hX hS => ?_)
  refine lv_aload_n hx hb d_cRule_begin_35 rfl (lv_at hl 0 rfl) ?_
  refine lv_iconst (v := 0) hx hb d_cRule_begin_36 (by decide) ?_
  refine c_put_14_9 (k := k0) (v := 0) hx hb hts hown hC hX hS hk0 (hts _ t_151) d_cRule_begin_37 (fun H locs hX hS => ?_)
  obtain ⟨S37, e37, h⟩ := bd_some h
  rw [← e37] at hX
  refine lv_iconst (v := 0) hx hb d_cRule_begin_40 (by decide) ?_
  refine lv_istore (lv' := [(5, .int 0), (0, .ref (b + k0)), (1, .ref (ad x1)), (2, .int x2), (3, .int x3), (4, .int (bI x4))]) hx hb d_cRule_begin_41 hl (by decide) rfl (fun ls hl => ?_)
  have L43 : ∀ (n43 : Nat) (v5_43 : Int32) (S_43 : CS) (H : Heap) (locs : List Loc) (ls : Array Slot), hp D cA b ad (S_43, T) H → va_S (Ab b) s.heap H locs → lv_has ls 6 [(0, .ref (b + k0)), (5, .int v5_43)] → cRule_begin_L43 k0 n43 v5_43 S_43 = some rr → W p l e R s m args below meth c H locs 0 0 Q (F0 m 43 ls []) := by
    intro n43; induction n43 with
    | zero => intro v5_43 S_43 H locs ls  hX hS hl h; rw [cRule_begin_L43] at h; cases h
    | succ n43 ih43 =>
      intro v5_43 S_43 H locs ls  hX hS hl h
      rw [cRule_begin_L43] at h
      refine lv_iload hx hb d_cRule_begin_43 (lv_at hl 1 rfl) ?_
      refine lv_iconst (v := 4) hx hb d_cRule_begin_45 (by decide) ?_
      refine lv_icmp_ge hx hb d_cRule_begin_46 (tgt := 63) (by decide) (fun hc => ?_) (fun hc => ?_)
      · rw [if_pos hc] at h
        obtain rfl := Option.some.inj h
        exact rt_v hQ hx hb hr hX hS hlk d_cRule_begin_63
      · rw [if_neg hc] at h
        refine lv_aload_n hx hb d_cRule_begin_49 rfl (lv_at hl 0 rfl) ?_
        refine c_get_14_10 (k := k0) hx hb hts hown hC hX hk0 (hts _ t_154) d_cRule_begin_50 ?_
        refine lv_iload hx hb d_cRule_begin_53 (lv_at hl 1 rfl) ?_
        refine lv_iconst (v := 0) hx hb d_cRule_begin_55 (by decide) ?_
        by_cases hg56 : inbd v5_43 4 = true
        rotate_left; · rw [if_neg hg56] at h; cases h
        rw [if_pos hg56] at h
        refine c_ast_16 (k := (k0 + 3)) (v := 0) hx hb hC hX hS (kx_14_3 hk0) hg56 d_cRule_begin_56 (fun H locs hX hS => ?_)
        obtain ⟨S56, e56, h⟩ := bd_some h
        rw [← e56] at hX
        obtain ⟨a57, e57, h⟩ := bd_some h
        refine lv_iinc (v := a57) (lv' := [(5, .int a57), (0, .ref (b + k0))]) hx hb d_cRule_begin_57 hl (k := 1) rfl e57.symm (by decide) rfl (fun ls hl => ?_)
        refine lv_goto hx hb d_cRule_begin_60 (tgt := 43) (by decide) ?_
        exact ih43 a57 S56 H locs ls  hX hS (lv_sub hl [1, 0] rfl) h
  exact L43 600 0 S37 H locs ls  hX hS (lv_sub hl [1, 0] rfl) h
abbrev y_cTokens_advance : MethodName := ({ cls := "TypeGuard$Tokens", name := "advance", desc := "()V" } : Jvm.MethodName)
theorem d_cTokens_advance_0 : decode prog_9_method_7_code 0 = .ok (.aload_n 0, 1) := by decide +kernel
theorem d_cTokens_advance_1 : decode prog_9_method_7_code 1 = .ok (.getfield 27, 3) := by decide +kernel
theorem d_cTokens_advance_4 : decode prog_9_method_7_code 4 = .ok (.aload_n 0, 1) := by decide +kernel
theorem d_cTokens_advance_5 : decode prog_9_method_7_code 5 = .ok (.getfield 23, 3) := by decide +kernel
theorem d_cTokens_advance_8 : decode prog_9_method_7_code 8 = .ok (.iconst 1, 1) := by decide +kernel
theorem d_cTokens_advance_9 : decode prog_9_method_7_code 9 = .ok (.isub, 1) := by decide +kernel
theorem d_cTokens_advance_10 : decode prog_9_method_7_code 10 = .ok (.if_icmp .ge 13, 3) := by decide +kernel
theorem d_cTokens_advance_13 : decode prog_9_method_7_code 13 = .ok (.aload_n 0, 1) := by decide +kernel
theorem d_cTokens_advance_14 : decode prog_9_method_7_code 14 = .ok (.dup, 1) := by decide +kernel
theorem d_cTokens_advance_15 : decode prog_9_method_7_code 15 = .ok (.getfield 27, 3) := by decide +kernel
theorem d_cTokens_advance_18 : decode prog_9_method_7_code 18 = .ok (.iconst 1, 1) := by decide +kernel
theorem d_cTokens_advance_19 : decode prog_9_method_7_code 19 = .ok (.iadd, 1) := by decide +kernel
theorem d_cTokens_advance_20 : decode prog_9_method_7_code 20 = .ok (.putfield 27, 3) := by decide +kernel
theorem d_cTokens_advance_23 : decode prog_9_method_7_code 23 = .ok (.return_, 1) := by decide +kernel
def cTokens_advance (S : CS) : Option CS := (if ((gI S 3 3) - 1) ≤ (gI S 3 4) then some S else (bd (pI S 3 4 ((gI S 3 4) + 1)) fun S20 => some S20))
set_option maxHeartbeats 4000000 in
set_option maxRecDepth 100000 in
theorem M_cTokens_advance {l : Launch} {D : va_G} {cA : Nat → ClassId} {b : Nat} {ad : Nat → Nat}  {S : CS} {T : MS × (Nat → Int64)} {rr : CS}  (h : cTokens_advance  S = some rr) : Met l y_cTokens_advance (Cond.code y_cTokens_advance prog_9_method_7_code 1 (Option.none : Option Jvm.ClassFile.FieldType) :: TW) { frames := 0, cells := 0, slots := 0, locals := 0 } (va_Pc [.ref (b + 3)] (Rp D cA b ad (S, T))) (Qr D cA b ad (rr, T) none) 0 0 (Ab b) := by
  refine Ct_of (by decide) (Nat.le_of_ble_eq_true rfl) ?_
  intro p e R s m args below meth c ls Q H locs hR hQ hx hb hts hown hml hr hlk hC hX hS hl
  have hRf : R.frames = 0 := by rw [hR]
  have hRl : R.locals = 0 := by rw [hR]
  have hown : s.vm.findClass "TypeGuard$Tokens" = some m.cls := hown
  have hl : lv_has ls 1 [(0, .ref (b + 3))] := hl
  rw [cTokens_advance] at h
  refine lv_aload_n hx hb d_cTokens_advance_0 rfl (lv_at hl 0 rfl) ?_
  refine c_get_3_4 hx hb hts hown hC hX (by rfl) (hts _ t_51) d_cTokens_advance_1 ?_
  refine lv_aload_n hx hb d_cTokens_advance_4 rfl (lv_at hl 0 rfl) ?_
  refine c_get_3_3 hx hb hts hown hC hX (by rfl) (hts _ t_50) d_cTokens_advance_5 ?_
  refine lv_iconst (v := 1) hx hb d_cTokens_advance_8 (by decide) ?_
  refine lv_isub hx hb d_cTokens_advance_9 ?_
  refine lv_icmp_ge hx hb d_cTokens_advance_10 (tgt := 23) (by decide) (fun hc => ?_) (fun hc => ?_)
  · rw [if_pos hc] at h
    obtain rfl := Option.some.inj h
    exact rt_v hQ hx hb hr hX hS hlk d_cTokens_advance_23
  · rw [if_neg hc] at h
    refine lv_aload_n hx hb d_cTokens_advance_13 rfl (lv_at hl 0 rfl) ?_
    refine lv_dup hx hb d_cTokens_advance_14 rfl ?_
    refine c_get_3_4 hx hb hts hown hC hX (by rfl) (hts _ t_51) d_cTokens_advance_15 ?_
    refine lv_iconst (v := 1) hx hb d_cTokens_advance_18 (by decide) ?_
    refine lv_iadd hx hb d_cTokens_advance_19 ?_
    refine c_put_3_4 (v := ((gI S 3 4) + 1)) hx hb hts hown hC hX hS (by rfl) (hts _ t_51) d_cTokens_advance_20 (fun H locs hX hS => ?_)
    obtain ⟨S20, e20, h⟩ := bd_some h
    rw [← e20] at hX
    obtain rfl := Option.some.inj h
    exact rt_v hQ hx hb hr hX hS hlk d_cTokens_advance_23
abbrev y_cTokens_skip : MethodName := ({ cls := "TypeGuard$Tokens", name := "skip", desc := "(C)Z" } : Jvm.MethodName)
theorem d_cTokens_skip_0 : decode prog_9_method_8_code 0 = .ok (.aload_n 0, 1) := by decide +kernel
theorem d_cTokens_skip_1 : decode prog_9_method_8_code 1 = .ok (.iload_n 1, 1) := by decide +kernel
theorem d_cTokens_skip_2 : decode prog_9_method_8_code 2 = .ok (.invokevirtual 55, 3) := by decide +kernel
theorem d_cTokens_skip_5 : decode prog_9_method_8_code 5 = .ok (.istore_n 2, 1) := by decide +kernel
theorem d_cTokens_skip_6 : decode prog_9_method_8_code 6 = .ok (.iload_n 2, 1) := by decide +kernel
theorem d_cTokens_skip_7 : decode prog_9_method_8_code 7 = .ok (.ifCond .eq 7, 3) := by decide +kernel
theorem d_cTokens_skip_10 : decode prog_9_method_8_code 10 = .ok (.aload_n 0, 1) := by decide +kernel
theorem d_cTokens_skip_11 : decode prog_9_method_8_code 11 = .ok (.invokevirtual 58, 3) := by decide +kernel
theorem d_cTokens_skip_14 : decode prog_9_method_8_code 14 = .ok (.iload_n 2, 1) := by decide +kernel
theorem d_cTokens_skip_15 : decode prog_9_method_8_code 15 = .ok (.ireturn, 1) := by decide +kernel
def cTokens_skip (x1 : Int32) (S : CS) : Option (CS × Bool) := ((cTokens_is x1 S).bind fun q2 => (if q2 = true then ((cTokens_advance S).bind fun q11 => some (q11, q2)) else some (S, q2)))
set_option maxHeartbeats 4000000 in
set_option maxRecDepth 100000 in
theorem M_cTokens_skip {l : Launch} {D : va_G} {cA : Nat → ClassId} {b : Nat} {ad : Nat → Nat} {x1 : Int32} {S : CS} {T : MS × (Nat → Int64)} {rr : (CS × Bool)}  (h : cTokens_skip x1 S = some rr) : Met l y_cTokens_skip (Cond.code y_cTokens_skip prog_9_method_8_code 3 (Option.some Jvm.ClassFile.FieldType.boolean) :: TW) { frames := 1, cells := 0, slots := 0, locals := 21 } (va_Pc [.ref (b + 3), .int x1] (Rp D cA b ad (S, T))) (Qr D cA b ad (rr.1, T) (some (.int (bI rr.2)))) 0 0 (Ab b) := by
  refine Ct_of (by decide) (Nat.le_of_ble_eq_true rfl) ?_
  intro p e R s m args below meth c ls Q H locs hR hQ hx hb hts hown hml hr hlk hC hX hS hl
  have hRf : R.frames = 1 := by rw [hR]
  have hRl : R.locals = 21 := by rw [hR]
  have hown : s.vm.findClass "TypeGuard$Tokens" = some m.cls := hown
  have hl : lv_has ls 3 [(0, .ref (b + 3)), (1, .int x1)] := hl
  rw [cTokens_skip] at h
  refine lv_aload_n hx hb d_cTokens_skip_0 rfl (lv_at hl 0 rfl) ?_
  refine lv_iload_n hx hb d_cTokens_skip_1 rfl (lv_at hl 1 rfl) ?_
  obtain ⟨q2, hc2, h⟩ := Option.bind_eq_some_iff.mp h
  refine ck_V (As := [.int x1]) (rest := []) (st1 := [.int (bI q2)]) (M_cTokens_is  hc2) t_603 t_548 t_549 t_550 t_3 hx hb hts hown hC hX hS (hrc_c3 hC hX (by rfl)) hml hl.1 ⟨by rw [hRf]; decide, by rw [hRl]; decide⟩ ⟨rfl, rfl⟩ (n := 1) (by decide +kernel) rfl rfl rfl (lv_room (Nat.le_of_ble_eq_true rfl)) d_cTokens_skip_2 (fun H locs hX hS => ?_)
  refine lv_istore_n (lv' := [(2, .int (bI q2)), (0, .ref (b + 3)), (1, .int x1)]) hx hb d_cTokens_skip_5 rfl hl (by decide) rfl (fun ls hl => ?_)
  refine lv_iload_n hx hb d_cTokens_skip_6 rfl (lv_at hl 0 rfl) ?_
  refine lz_ifeq hx hb d_cTokens_skip_7 (tgt := 14) (by decide) (fun hc => ?_) (fun hc => ?_)
  · rw [if_neg hc] at h
    refine lv_iload_n hx hb d_cTokens_skip_14 rfl (lv_at hl 0 rfl) ?_
    obtain rfl := Option.some.inj h
    exact rt_z hQ hx hb hr hX hS hlk d_cTokens_skip_15
  · rw [if_pos hc] at h
    refine lv_aload_n hx hb d_cTokens_skip_10 rfl (lv_at hl 1 rfl) ?_
    obtain ⟨q11, hc11, h⟩ := Option.bind_eq_some_iff.mp h
    refine ck_V (As := []) (rest := []) (st1 := []) (M_cTokens_advance  hc11) t_604 t_592 t_593 t_594 t_3 hx hb hts hown hC hX hS (hrc_c3 hC hX (by rfl)) hml hl.1 ⟨by rw [hRf]; decide, by rw [hRl]; decide⟩ ⟨rfl, rfl⟩ (n := 0) (by decide +kernel) rfl rfl rfl (lv_room (Nat.le_of_ble_eq_true rfl)) d_cTokens_skip_11 (fun H locs hX hS => ?_)
    refine lv_iload_n hx hb d_cTokens_skip_14 rfl (lv_at hl 0 rfl) ?_
    obtain rfl := Option.some.inj h
    exact rt_z hQ hx hb hr hX hS hlk d_cTokens_skip_15
