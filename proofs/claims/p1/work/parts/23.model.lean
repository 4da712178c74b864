abbrev y_m_type : MethodName := ({ cls := "TypeGuardModel", name := "type", desc := "(JI)Z" } : Jvm.MethodName)
theorem d_m_type_0 : decode prog_14_method_37_code 0 = .ok (.aload_n 0, 1) := by decide +kernel
theorem d_m_type_1 : decode prog_14_method_37_code 1 = .ok (.iconst 0, 1) := by decide +kernel
theorem d_m_type_2 : decode prog_14_method_37_code 2 = .ok (.putfield 106, 3) := by decide +kernel
theorem d_m_type_5 : decode prog_14_method_37_code 5 = .ok (.iload_n 3, 1) := by decide +kernel
theorem d_m_type_6 : decode prog_14_method_37_code 6 = .ok (.iconst 1, 1) := by decide +kernel
theorem d_m_type_7 : decode prog_14_method_37_code 7 = .ok (.if_icmp .lt 21, 3) := by decide +kernel
theorem d_m_type_10 : decode prog_14_method_37_code 10 = .ok (.iload_n 3, 1) := by decide +kernel
theorem d_m_type_11 : decode prog_14_method_37_code 11 = .ok (.bipush 8, 2) := by decide +kernel
theorem d_m_type_13 : decode prog_14_method_37_code 13 = .ok (.if_icmp .gt 15, 3) := by decide +kernel
theorem d_m_type_16 : decode prog_14_method_37_code 16 = .ok (.aload_n 0, 1) := by decide +kernel
theorem d_m_type_17 : decode prog_14_method_37_code 17 = .ok (.getfield 125, 3) := by decide +kernel
theorem d_m_type_20 : decode prog_14_method_37_code 20 = .ok (.iload_n 3, 1) := by decide +kernel
theorem d_m_type_21 : decode prog_14_method_37_code 21 = .ok (.iadd, 1) := by decide +kernel
theorem d_m_type_22 : decode prog_14_method_37_code 22 = .ok (.sipush 480, 3) := by decide +kernel
theorem d_m_type_25 : decode prog_14_method_37_code 25 = .ok (.if_icmp .le 5, 3) := by decide +kernel
theorem d_m_type_28 : decode prog_14_method_37_code 28 = .ok (.iconst 0, 1) := by decide +kernel
theorem d_m_type_29 : decode prog_14_method_37_code 29 = .ok (.ireturn, 1) := by decide +kernel
theorem d_m_type_30 : decode prog_14_method_37_code 30 = .ok (.iconst 0, 1) := by decide +kernel
theorem d_m_type_31 : decode prog_14_method_37_code 31 = .ok (.istore 4, 2) := by decide +kernel
theorem d_m_type_33 : decode prog_14_method_37_code 33 = .ok (.iload 4, 2) := by decide +kernel
theorem d_m_type_35 : decode prog_14_method_37_code 35 = .ok (.iload_n 3, 1) := by decide +kernel
theorem d_m_type_36 : decode prog_14_method_37_code 36 = .ok (.if_icmp .ge 39, 3) := by decide +kernel
theorem d_m_type_39 : decode prog_14_method_37_code 39 = .ok (.lload_n 1, 1) := by decide +kernel
theorem d_m_type_40 : decode prog_14_method_37_code 40 = .ok (.bipush 8, 2) := by decide +kernel
theorem d_m_type_42 : decode prog_14_method_37_code 42 = .ok (.iload 4, 2) := by decide +kernel
theorem d_m_type_44 : decode prog_14_method_37_code 44 = .ok (.imul, 1) := by decide +kernel
theorem d_m_type_45 : decode prog_14_method_37_code 45 = .ok (.lshr, 1) := by decide +kernel
theorem d_m_type_46 : decode prog_14_method_37_code 46 = .ok (.ldc2_w 273, 3) := by decide +kernel
theorem d_m_type_49 : decode prog_14_method_37_code 49 = .ok (.land, 1) := by decide +kernel
theorem d_m_type_50 : decode prog_14_method_37_code 50 = .ok (.l2i, 1) := by decide +kernel
theorem d_m_type_51 : decode prog_14_method_37_code 51 = .ok (.istore 5, 2) := by decide +kernel
theorem d_m_type_53 : decode prog_14_method_37_code 53 = .ok (.iload 5, 2) := by decide +kernel
theorem d_m_type_55 : decode prog_14_method_37_code 55 = .ok (.bipush 32, 2) := by decide +kernel
theorem d_m_type_57 : decode prog_14_method_37_code 57 = .ok (.if_icmp .lt 10, 3) := by decide +kernel
theorem d_m_type_60 : decode prog_14_method_37_code 60 = .ok (.iload 5, 2) := by decide +kernel
theorem d_m_type_62 : decode prog_14_method_37_code 62 = .ok (.bipush 126, 2) := by decide +kernel
theorem d_m_type_64 : decode prog_14_method_37_code 64 = .ok (.if_icmp .le 5, 3) := by decide +kernel
theorem d_m_type_67 : decode prog_14_method_37_code 67 = .ok (.iconst 0, 1) := by decide +kernel
theorem d_m_type_68 : decode prog_14_method_37_code 68 = .ok (.ireturn, 1) := by decide +kernel
theorem d_m_type_69 : decode prog_14_method_37_code 69 = .ok (.iinc 4 1, 3) := by decide +kernel
theorem d_m_type_72 : decode prog_14_method_37_code 72 = .ok (.goto (-39), 3) := by decide +kernel
theorem d_m_type_75 : decode prog_14_method_37_code 75 = .ok (.iload_n 3, 1) := by decide +kernel
theorem d_m_type_76 : decode prog_14_method_37_code 76 = .ok (.iconst 1, 1) := by decide +kernel
theorem d_m_type_77 : decode prog_14_method_37_code 77 = .ok (.isub, 1) := by decide +kernel
theorem d_m_type_78 : decode prog_14_method_37_code 78 = .ok (.istore 4, 2) := by decide +kernel
theorem d_m_type_80 : decode prog_14_method_37_code 80 = .ok (.iload 4, 2) := by decide +kernel
theorem d_m_type_82 : decode prog_14_method_37_code 82 = .ok (.ifCond .lt 40, 3) := by decide +kernel
theorem d_m_type_85 : decode prog_14_method_37_code 85 = .ok (.aload_n 0, 1) := by decide +kernel
theorem d_m_type_86 : decode prog_14_method_37_code 86 = .ok (.getfield 7, 3) := by decide +kernel
theorem d_m_type_89 : decode prog_14_method_37_code 89 = .ok (.aload_n 0, 1) := by decide +kernel
theorem d_m_type_90 : decode prog_14_method_37_code 90 = .ok (.getfield 125, 3) := by decide +kernel
theorem d_m_type_93 : decode prog_14_method_37_code 93 = .ok (.lload_n 1, 1) := by decide +kernel
theorem d_m_type_94 : decode prog_14_method_37_code 94 = .ok (.bipush 8, 2) := by decide +kernel
theorem d_m_type_96 : decode prog_14_method_37_code 96 = .ok (.iload 4, 2) := by decide +kernel
theorem d_m_type_98 : decode prog_14_method_37_code 98 = .ok (.imul, 1) := by decide +kernel
theorem d_m_type_99 : decode prog_14_method_37_code 99 = .ok (.lshr, 1) := by decide +kernel
theorem d_m_type_100 : decode prog_14_method_37_code 100 = .ok (.ldc2_w 273, 3) := by decide +kernel
theorem d_m_type_103 : decode prog_14_method_37_code 103 = .ok (.land, 1) := by decide +kernel
theorem d_m_type_104 : decode prog_14_method_37_code 104 = .ok (.l2i, 1) := by decide +kernel
theorem d_m_type_105 : decode prog_14_method_37_code 105 = .ok (.iastore, 1) := by decide +kernel
theorem d_m_type_106 : decode prog_14_method_37_code 106 = .ok (.aload_n 0, 1) := by decide +kernel
theorem d_m_type_107 : decode prog_14_method_37_code 107 = .ok (.dup, 1) := by decide +kernel
theorem d_m_type_108 : decode prog_14_method_37_code 108 = .ok (.getfield 125, 3) := by decide +kernel
theorem d_m_type_111 : decode prog_14_method_37_code 111 = .ok (.iconst 1, 1) := by decide +kernel
theorem d_m_type_112 : decode prog_14_method_37_code 112 = .ok (.iadd, 1) := by decide +kernel
theorem d_m_type_113 : decode prog_14_method_37_code 113 = .ok (.putfield 125, 3) := by decide +kernel
theorem d_m_type_116 : decode prog_14_method_37_code 116 = .ok (.iinc 4 (-1), 3) := by decide +kernel
theorem d_m_type_119 : decode prog_14_method_37_code 119 = .ok (.goto (-39), 3) := by decide +kernel
theorem d_m_type_122 : decode prog_14_method_37_code 122 = .ok (.iconst 1, 1) := by decide +kernel
theorem d_m_type_123 : decode prog_14_method_37_code 123 = .ok (.ireturn, 1) := by decide +kernel
def m_type_L80 (v1_80 : Int64) : Nat → Int32 → MS → Option (MS × Bool)
  | 0, _, _ => none
  | n + 1, v4_80, S_80 => (if v4_80 < 0 then some (S_80, true) else (if inbd (gI S_80 0 2) 480 = true then (bd (pI S_80 1 (txN (gI S_80 0 2)) ((((lSr v1_80 (8 * v4_80)) &&& 255)).toInt32)) fun S105 => (bd (pI S105 0 2 ((gI S105 0 2) + 1)) fun S113 => (bd ((v4_80 + (-1))) fun a116 => (m_type_L80 v1_80 n) a116 S113))) else none))
def m_type_L33 (v1_33 : Int64) (v3_33 : Int32) (S_33 : MS) : Nat → Int32 → Option (MS × Bool)
  | 0, _ => none
  | n + 1, v4_33 => (if v3_33 ≤ v4_33 then (bd ((v3_33 - 1)) fun a78 => m_type_L80 v1_33 600 a78 S_33) else (bd (((((lSr v1_33 (8 * v4_33)) &&& 255)).toInt32)) fun a51 => (if a51 < 32 then some (S_33, false) else (if a51 ≤ 126 then (bd ((v4_33 + 1)) fun a69 => (m_type_L33 v1_33 v3_33 S_33 n) a69) else some (S_33, false)))))
def m_type (x1 : Int64) (x3 : Int32) (S : MS) : Option (MS × Bool) := (bd (pI S 0 0 0) fun S2 => (if x3 < 1 then some (S2, false) else (if 8 < x3 then some (S2, false) else (if ((gI S2 0 2) + x3) ≤ 480 then m_type_L33 x1 x3 S2 600 0 else some (S2, false)))))
set_option maxHeartbeats 4000000 in
set_option maxRecDepth 100000 in
theorem M_m_type {l : Launch} {D : va_G} {cA : Nat → ClassId} {b : Nat} {ad : Nat → Nat} {x1 : Int64} {x3 : Int32} {S : MS} {T : CS} {o : Nat → Int64} {rr : (MS × Bool)}  (h : m_type x1 x3 S = some rr) : Met l y_m_type (Cond.code y_m_type prog_14_method_37_code 6 (Option.some Jvm.ClassFile.FieldType.boolean) :: TW) { frames := 0, cells := 0, slots := 0, locals := 0 } (va_Pc [.ref (b + 262), .long x1, .int x3] (Rp D cA b ad (T, S, o))) (Qr D cA b ad (T, rr.1, o) (some (.int (bI rr.2)))) 0 0 (Ab b) := by
  refine Ct_of (by decide) (Nat.le_of_ble_eq_true rfl) ?_
  intro p e R s m args below meth c ls Q H locs hR hQ hx hb hts hown hml hr hlk hC hX hS hl
  have hRf : R.frames = 0 := by rw [hR]
  have hRl : R.locals = 0 := by rw [hR]
  have hown : s.vm.findClass "TypeGuardModel" = some m.cls := hown
  have hl : lv_has ls 6 [(0, .ref (b + 262)), (1, .long x1), (3, .int x3)] := hl
  rw [m_type] at h
  refine lv_aload_n hx hb d_m_type_0 rfl (lv_at hl 0 rfl) ?_
  refine lv_iconst (v := 0) hx hb d_m_type_1 (by decide) ?_
  refine m_put_0_0 (v := 0) hx hb hts hown hC hX hS (by rfl) (hts _ t_987) d_m_type_2 (fun H locs hX hS => ?_)
  obtain ⟨S2, e2, h⟩ := bd_some h
  rw [← e2] at hX
  refine lv_iload_n hx hb d_m_type_5 rfl (lv_at hl 2 rfl) ?_
  refine lv_iconst (v := 1) hx hb d_m_type_6 (by decide) ?_
  refine lv_icmp_lt hx hb d_m_type_7 (tgt := 28) (by decide) (fun hc => ?_) (fun hc => ?_)
  · rw [if_pos hc] at h
    refine lv_iconst (v := 0) hx hb d_m_type_28 (by decide) ?_
    obtain rfl := Option.some.inj h
    exact rt_zf hQ hx hb hr hX hS hlk d_m_type_29
  · rw [if_neg hc] at h
    refine lv_iload_n hx hb d_m_type_10 rfl (lv_at hl 2 rfl) ?_
    refine lv_bipush (v := 8) hx hb d_m_type_11 (by decide) ?_
    refine lv_icmp_gt hx hb d_m_type_13 (tgt := 28) (by decide) (fun hc => ?_) (fun hc => ?_)
    · rw [if_pos hc] at h
      refine lv_iconst (v := 0) hx hb d_m_type_28 (by decide) ?_
      obtain rfl := Option.some.inj h
      exact rt_zf hQ hx hb hr hX hS hlk d_m_type_29
    · rw [if_neg hc] at h
      refine lv_aload_n hx hb d_m_type_16 rfl (lv_at hl 0 rfl) ?_
      refine m_get_0_2 hx hb hts hown hC hX (by rfl) (hts _ t_989) d_m_type_17 ?_
      refine lv_iload_n hx hb d_m_type_20 rfl (lv_at hl 2 rfl) ?_
      refine lv_iadd hx hb d_m_type_21 ?_
      refine lv_sipush (v := 480) hx hb d_m_type_22 (by decide) ?_
      refine lv_icmp_le hx hb d_m_type_25 (tgt := 30) (by decide) (fun hc => ?_) (fun hc => ?_)
      · rw [if_pos hc] at h
        refine lv_iconst (v := 0) hx hb d_m_type_30 (by decide) ?_
        refine lv_istore (lv' := [(4, .int 0), (0, .ref (b + 262)), (1, .long x1), (3, .int x3)]) hx hb d_m_type_31 hl (by decide) rfl (fun ls hl => ?_)
        have L33 : ∀ (n33 : Nat) (v4_33 : Int32) (H : Heap) (locs : List Loc) (ls : Array Slot), hp D cA b ad (T, S2, o) H → va_S (Ab b) s.heap H locs → lv_has ls 6 [(0, .ref (b + 262)), (1, .long x1), (3, .int x3), (4, .int v4_33)] → m_type_L33 x1 x3 S2 n33 v4_33 = some rr → W p l e R s m args below meth c H locs 0 0 Q (F0 m 33 ls []) := by
          intro n33; induction n33 with
          | zero => intro v4_33 H locs ls  hX hS hl h; rw [m_type_L33] at h; cases h
          | succ n33 ih33 =>
            intro v4_33 H locs ls  hX hS hl h
            rw [m_type_L33] at h
            refine lv_iload hx hb d_m_type_33 (lv_at hl 3 rfl) ?_
            refine lv_iload_n hx hb d_m_type_35 rfl (lv_at hl 2 rfl) ?_
            refine lv_icmp_ge hx hb d_m_type_36 (tgt := 75) (by decide) (fun hc => ?_) (fun hc => ?_)
            · rw [if_pos hc] at h
              refine lv_iload_n hx hb d_m_type_75 rfl (lv_at hl 2 rfl) ?_
              refine lv_iconst (v := 1) hx hb d_m_type_76 (by decide) ?_
              refine lv_isub hx hb d_m_type_77 ?_
              obtain ⟨a78, e78, h⟩ := bd_some h
              refine lt_I e78 ?_
              refine lv_istore (lv' := [(4, .int a78), (0, .ref (b + 262)), (1, .long x1), (3, .int x3)]) hx hb d_m_type_78 hl (by decide) rfl (fun ls hl => ?_)
              have L80 : ∀ (n80 : Nat) (v4_80 : Int32) (S_80 : MS) (H : Heap) (locs : List Loc) (ls : Array Slot), hp D cA b ad (T, S_80, o) H → va_S (Ab b) s.heap H locs → lv_has ls 6 [(0, .ref (b + 262)), (1, .long x1), (4, .int v4_80)] → m_type_L80 x1 n80 v4_80 S_80 = some rr → W p l e R s m args below meth c H locs 0 0 Q (F0 m 80 ls []) := by
                intro n80; induction n80 with
                | zero => intro v4_80 S_80 H locs ls  hX hS hl h; rw [m_type_L80] at h; cases h
                | succ n80 ih80 =>
                  intro v4_80 S_80 H locs ls  hX hS hl h
                  rw [m_type_L80] at h
                  refine lv_iload hx hb d_m_type_80 (lv_at hl 2 rfl) ?_
                  refine lv_if_lt hx hb d_m_type_82 (tgt := 122) (by decide) (fun hc => ?_) (fun hc => ?_)
                  · rw [if_pos hc] at h
                    refine lv_iconst (v := 1) hx hb d_m_type_122 (by decide) ?_
                    obtain rfl := Option.some.inj h
                    exact rt_zt hQ hx hb hr hX hS hlk d_m_type_123
                  · rw [if_neg hc] at h
                    refine lv_aload_n hx hb d_m_type_85 rfl (lv_at hl 0 rfl) ?_
                    refine m_get_0_1 hx hb hts hown hC hX (by rfl) (hts _ t_988) d_m_type_86 ?_
                    refine lv_aload_n hx hb d_m_type_89 rfl (lv_at hl 0 rfl) ?_
                    refine m_get_0_2 hx hb hts hown hC hX (by rfl) (hts _ t_989) d_m_type_90 ?_
                    refine lv_lload_n hx hb d_m_type_93 rfl (lv_at hl 1 rfl) ?_
                    refine lv_bipush (v := 8) hx hb d_m_type_94 (by decide) ?_
                    refine lv_iload hx hb d_m_type_96 (lv_at hl 2 rfl) ?_
                    refine lv_imul hx hb d_m_type_98 ?_
                    refine lv_lshr (v := (lSr x1 (8 * v4_80))) hx hb d_m_type_99 rfl ?_
                    refine lv_ldc2 (v := 255) hx hb hown (hts _ t_1140) d_m_type_100 ?_
                    refine lv_land hx hb d_m_type_103 ?_
                    refine lv_l2i (v := ((((lSr x1 (8 * v4_80)) &&& 255)).toInt32)) hx hb d_m_type_104 rfl ?_
                    by_cases hg105 : inbd (gI S_80 0 2) 480 = true
                    rotate_left; · rw [if_neg hg105] at h; cases h
                    rw [if_pos hg105] at h
                    refine m_ast_1 (k := 1) (v := ((((lSr x1 (8 * v4_80)) &&& 255)).toInt32)) hx hb hC hX hS (by rfl) hg105 d_m_type_105 (fun H locs hX hS => ?_)
                    obtain ⟨S105, e105, h⟩ := bd_some h
                    rw [← e105] at hX
                    refine lv_aload_n hx hb d_m_type_106 rfl (lv_at hl 0 rfl) ?_
                    refine lv_dup hx hb d_m_type_107 rfl ?_
                    refine m_get_0_2 hx hb hts hown hC hX (by rfl) (hts _ t_989) d_m_type_108 ?_
                    refine lv_iconst (v := 1) hx hb d_m_type_111 (by decide) ?_
                    refine lv_iadd hx hb d_m_type_112 ?_
                    refine m_put_0_2 (v := ((gI S105 0 2) + 1)) hx hb hts hown hC hX hS (by rfl) (hts _ t_989) d_m_type_113 (fun H locs hX hS => ?_)
                    obtain ⟨S113, e113, h⟩ := bd_some h
                    rw [← e113] at hX
                    obtain ⟨a116, e116, h⟩ := bd_some h
                    refine lv_iinc (v := a116) (lv' := [(4, .int a116), (0, .ref (b + 262)), (1, .long x1)]) hx hb d_m_type_116 hl (k := 2) rfl e116.symm (by decide) rfl (fun ls hl => ?_)
                    refine lv_goto hx hb d_m_type_119 (tgt := 80) (by decide) ?_
                    exact ih80 a116 S113 H locs ls  hX hS (lv_sub hl [1, 2, 0] rfl) h
              exact L80 600 a78 S2 H locs ls  hX hS (lv_sub hl [1, 2, 0] rfl) h
            · rw [if_neg hc] at h
              refine lv_lload_n hx hb d_m_type_39 rfl (lv_at hl 1 rfl) ?_
              refine lv_bipush (v := 8) hx hb d_m_type_40 (by decide) ?_
              refine lv_iload hx hb d_m_type_42 (lv_at hl 3 rfl) ?_
              refine lv_imul hx hb d_m_type_44 ?_
              refine lv_lshr (v := (lSr x1 (8 * v4_33))) hx hb d_m_type_45 rfl ?_
              refine lv_ldc2 (v := 255) hx hb hown (hts _ t_1140) d_m_type_46 ?_
              refine lv_land hx hb d_m_type_49 ?_
              refine lv_l2i (v := ((((lSr x1 (8 * v4_33)) &&& 255)).toInt32)) hx hb d_m_type_50 rfl ?_
              obtain ⟨a51, e51, h⟩ := bd_some h
              refine lt_I e51 ?_
              refine lv_istore (lv' := [(5, .int a51), (0, .ref (b + 262)), (1, .long x1), (3, .int x3), (4, .int v4_33)]) hx hb d_m_type_51 hl (by decide) rfl (fun ls hl => ?_)
              refine lv_iload hx hb d_m_type_53 (lv_at hl 0 rfl) ?_
              refine lv_bipush (v := 32) hx hb d_m_type_55 (by decide) ?_
              refine lv_icmp_lt hx hb d_m_type_57 (tgt := 67) (by decide) (fun hc => ?_) (fun hc => ?_)
              · rw [if_pos hc] at h
                refine lv_iconst (v := 0) hx hb d_m_type_67 (by decide) ?_
                obtain rfl := Option.some.inj h
                exact rt_zf hQ hx hb hr hX hS hlk d_m_type_68
              · rw [if_neg hc] at h
                refine lv_iload hx hb d_m_type_60 (lv_at hl 0 rfl) ?_
                refine lv_bipush (v := 126) hx hb d_m_type_62 (by decide) ?_
                refine lv_icmp_le hx hb d_m_type_64 (tgt := 69) (by decide) (fun hc => ?_) (fun hc => ?_)
                · rw [if_pos hc] at h
                  obtain ⟨a69, e69, h⟩ := bd_some h
                  refine lv_iinc (v := a69) (lv' := [(4, .int a69), (5, .int a51), (0, .ref (b + 262)), (1, .long x1), (3, .int x3)]) hx hb d_m_type_69 hl (k := 4) rfl e69.symm (by decide) rfl (fun ls hl => ?_)
                  refine lv_goto hx hb d_m_type_72 (tgt := 33) (by decide) ?_
                  exact ih33 a69 H locs ls  hX hS (lv_sub hl [2, 3, 4, 0] rfl) h
                · rw [if_neg hc] at h
                  refine lv_iconst (v := 0) hx hb d_m_type_67 (by decide) ?_
                  obtain rfl := Option.some.inj h
                  exact rt_zf hQ hx hb hr hX hS hlk d_m_type_68
        exact L33 600 0 H locs ls  hX hS (lv_sub hl [1, 2, 3, 0] rfl) h
      · rw [if_neg hc] at h
        refine lv_iconst (v := 0) hx hb d_m_type_28 (by decide) ?_
        obtain rfl := Option.some.inj h
        exact rt_zf hQ hx hb hr hX hS hlk d_m_type_29
abbrev y_m_load : MethodName := ({ cls := "TypeGuardModel", name := "load", desc := "()I" } : Jvm.MethodName)
theorem d_m_load_0 : decode prog_14_method_38_code 0 = .ok (.aload_n 0, 1) := by decide +kernel
theorem d_m_load_1 : decode prog_14_method_38_code 1 = .ok (.iconst 0, 1) := by decide +kernel
theorem d_m_load_2 : decode prog_14_method_38_code 2 = .ok (.putfield 109, 3) := by decide +kernel
theorem d_m_load_5 : decode prog_14_method_38_code 5 = .ok (.aload_n 0, 1) := by decide +kernel
theorem d_m_load_6 : decode prog_14_method_38_code 6 = .ok (.iconst 0, 1) := by decide +kernel
theorem d_m_load_7 : decode prog_14_method_38_code 7 = .ok (.putfield 122, 3) := by decide +kernel
theorem d_m_load_10 : decode prog_14_method_38_code 10 = .ok (.iconst 0, 1) := by decide +kernel
theorem d_m_load_11 : decode prog_14_method_38_code 11 = .ok (.istore_n 1, 1) := by decide +kernel
theorem d_m_load_12 : decode prog_14_method_38_code 12 = .ok (.iload_n 1, 1) := by decide +kernel
theorem d_m_load_13 : decode prog_14_method_38_code 13 = .ok (.iconst 5, 1) := by decide +kernel
theorem d_m_load_14 : decode prog_14_method_38_code 14 = .ok (.if_icmp .ge 23, 3) := by decide +kernel
theorem d_m_load_17 : decode prog_14_method_38_code 17 = .ok (.aload_n 0, 1) := by decide +kernel
theorem d_m_load_18 : decode prog_14_method_38_code 18 = .ok (.getfield 17, 3) := by decide +kernel
theorem d_m_load_21 : decode prog_14_method_38_code 21 = .ok (.iconst 5, 1) := by decide +kernel
theorem d_m_load_22 : decode prog_14_method_38_code 22 = .ok (.aload_n 0, 1) := by decide +kernel
theorem d_m_load_23 : decode prog_14_method_38_code 23 = .ok (.invokevirtual 189, 3) := by decide +kernel
theorem d_m_load_26 : decode prog_14_method_38_code 26 = .ok (.imul, 1) := by decide +kernel
theorem d_m_load_27 : decode prog_14_method_38_code 27 = .ok (.iload_n 1, 1) := by decide +kernel
theorem d_m_load_28 : decode prog_14_method_38_code 28 = .ok (.iadd, 1) := by decide +kernel
theorem d_m_load_29 : decode prog_14_method_38_code 29 = .ok (.iconst 0, 1) := by decide +kernel
theorem d_m_load_30 : decode prog_14_method_38_code 30 = .ok (.iastore, 1) := by decide +kernel
theorem d_m_load_31 : decode prog_14_method_38_code 31 = .ok (.iinc 1 1, 3) := by decide +kernel
theorem d_m_load_34 : decode prog_14_method_38_code 34 = .ok (.goto (-22), 3) := by decide +kernel
theorem d_m_load_37 : decode prog_14_method_38_code 37 = .ok (.aload_n 0, 1) := by decide +kernel
theorem d_m_load_38 : decode prog_14_method_38_code 38 = .ok (.invokevirtual 148, 3) := by decide +kernel
theorem d_m_load_41 : decode prog_14_method_38_code 41 = .ok (.aload_n 0, 1) := by decide +kernel
theorem d_m_load_42 : decode prog_14_method_38_code 42 = .ok (.getfield 109, 3) := by decide +kernel
theorem d_m_load_45 : decode prog_14_method_38_code 45 = .ok (.ifCond .ne 17, 3) := by decide +kernel
theorem d_m_load_48 : decode prog_14_method_38_code 48 = .ok (.aload_n 0, 1) := by decide +kernel
theorem d_m_load_49 : decode prog_14_method_38_code 49 = .ok (.getfield 128, 3) := by decide +kernel
theorem d_m_load_52 : decode prog_14_method_38_code 52 = .ok (.ifCond .eq 10, 3) := by decide +kernel
theorem d_m_load_55 : decode prog_14_method_38_code 55 = .ok (.aload_n 0, 1) := by decide +kernel
theorem d_m_load_56 : decode prog_14_method_38_code 56 = .ok (.invokevirtual 275, 3) := by decide +kernel
theorem d_m_load_59 : decode prog_14_method_38_code 59 = .ok (.goto (-18), 3) := by decide +kernel
theorem d_m_load_62 : decode prog_14_method_38_code 62 = .ok (.aload_n 0, 1) := by decide +kernel
theorem d_m_load_63 : decode prog_14_method_38_code 63 = .ok (.getfield 109, 3) := by decide +kernel
theorem d_m_load_66 : decode prog_14_method_38_code 66 = .ok (.ifCond .ne 7, 3) := by decide +kernel
theorem d_m_load_69 : decode prog_14_method_38_code 69 = .ok (.aload_n 0, 1) := by decide +kernel
theorem d_m_load_70 : decode prog_14_method_38_code 70 = .ok (.invokevirtual 278, 3) := by decide +kernel
theorem d_m_load_73 : decode prog_14_method_38_code 73 = .ok (.aload_n 0, 1) := by decide +kernel
theorem d_m_load_74 : decode prog_14_method_38_code 74 = .ok (.iconst 0, 1) := by decide +kernel
theorem d_m_load_75 : decode prog_14_method_38_code 75 = .ok (.putfield 125, 3) := by decide +kernel
theorem d_m_load_78 : decode prog_14_method_38_code 78 = .ok (.aload_n 0, 1) := by decide +kernel
theorem d_m_load_79 : decode prog_14_method_38_code 79 = .ok (.aload_n 0, 1) := by decide +kernel
theorem d_m_load_80 : decode prog_14_method_38_code 80 = .ok (.getfield 109, 3) := by decide +kernel
theorem d_m_load_83 : decode prog_14_method_38_code 83 = .ok (.putfield 281, 3) := by decide +kernel
theorem d_m_load_86 : decode prog_14_method_38_code 86 = .ok (.aload_n 0, 1) := by decide +kernel
theorem d_m_load_87 : decode prog_14_method_38_code 87 = .ok (.aload_n 0, 1) := by decide +kernel
theorem d_m_load_88 : decode prog_14_method_38_code 88 = .ok (.getfield 109, 3) := by decide +kernel
theorem d_m_load_91 : decode prog_14_method_38_code 91 = .ok (.ifCond .ne 7, 3) := by decide +kernel
theorem d_m_load_94 : decode prog_14_method_38_code 94 = .ok (.iconst (-1), 1) := by decide +kernel
theorem d_m_load_95 : decode prog_14_method_38_code 95 = .ok (.goto 7, 3) := by decide +kernel
theorem d_m_load_98 : decode prog_14_method_38_code 98 = .ok (.aload_n 0, 1) := by decide +kernel
theorem d_m_load_99 : decode prog_14_method_38_code 99 = .ok (.getfield 115, 3) := by decide +kernel
theorem d_m_load_102 : decode prog_14_method_38_code 102 = .ok (.putfield 13, 3) := by decide +kernel
theorem d_m_load_105 : decode prog_14_method_38_code 105 = .ok (.aload_n 0, 1) := by decide +kernel
theorem d_m_load_106 : decode prog_14_method_38_code 106 = .ok (.getfield 109, 3) := by decide +kernel
theorem d_m_load_109 : decode prog_14_method_38_code 109 = .ok (.ifCond .eq 10, 3) := by decide +kernel
theorem d_m_load_112 : decode prog_14_method_38_code 112 = .ok (.aload_n 0, 1) := by decide +kernel
theorem d_m_load_113 : decode prog_14_method_38_code 113 = .ok (.iconst 1, 1) := by decide +kernel
theorem d_m_load_114 : decode prog_14_method_38_code 114 = .ok (.iconst 0, 1) := by decide +kernel
theorem d_m_load_115 : decode prog_14_method_38_code 115 = .ok (.invokevirtual 284, 3) := by decide +kernel
theorem d_m_load_118 : decode prog_14_method_38_code 118 = .ok (.ireturn, 1) := by decide +kernel
theorem d_m_load_119 : decode prog_14_method_38_code 119 = .ok (.aload_n 0, 1) := by decide +kernel
theorem d_m_load_120 : decode prog_14_method_38_code 120 = .ok (.aload_n 0, 1) := by decide +kernel
theorem d_m_load_121 : decode prog_14_method_38_code 121 = .ok (.invokevirtual 189, 3) := by decide +kernel
theorem d_m_load_124 : decode prog_14_method_38_code 124 = .ok (.putfield 154, 3) := by decide +kernel
theorem d_m_load_127 : decode prog_14_method_38_code 127 = .ok (.aload_n 0, 1) := by decide +kernel
theorem d_m_load_128 : decode prog_14_method_38_code 128 = .ok (.dup, 1) := by decide +kernel
theorem d_m_load_129 : decode prog_14_method_38_code 129 = .ok (.getfield 287, 3) := by decide +kernel
theorem d_m_load_132 : decode prog_14_method_38_code 132 = .ok (.iconst 1, 1) := by decide +kernel
theorem d_m_load_133 : decode prog_14_method_38_code 133 = .ok (.iadd, 1) := by decide +kernel
theorem d_m_load_134 : decode prog_14_method_38_code 134 = .ok (.putfield 287, 3) := by decide +kernel
theorem d_m_load_137 : decode prog_14_method_38_code 137 = .ok (.aload_n 0, 1) := by decide +kernel
theorem d_m_load_138 : decode prog_14_method_38_code 138 = .ok (.iconst 0, 1) := by decide +kernel
theorem d_m_load_139 : decode prog_14_method_38_code 139 = .ok (.aload_n 0, 1) := by decide +kernel
theorem d_m_load_140 : decode prog_14_method_38_code 140 = .ok (.getfield 287, 3) := by decide +kernel
theorem d_m_load_143 : decode prog_14_method_38_code 143 = .ok (.invokevirtual 284, 3) := by decide +kernel
theorem d_m_load_146 : decode prog_14_method_38_code 146 = .ok (.ireturn, 1) := by decide +kernel
def m_load_J102 (s0_102 : Int32) (S_102 : MS) : Option (MS × Int32) := (bd (pI S_102 0 10 s0_102) fun S102 => (if (gI S102 0 7) = 0 then ((m_own S102).bind fun q121 => (bd (pI S102 0 12 q121) fun S124 => (bd (pI S124 0 34 ((gI S124 0 34) + 1)) fun S134 => ((m_give 0 (gI S134 0 34) S134).bind fun q143 => some (q143.1, q143.2))))) else ((m_give 1 0 S102).bind fun q115 => some (q115.1, q115.2))))
def m_load_J73 (S_73 : MS) : Option (MS × Int32) := (bd (pI S_73 0 2 0) fun S75 => (bd (pI S75 0 9 (gI S75 0 7)) fun S83 => (if (gI S83 0 7) = 0 then m_load_J102 (-1) S83 else m_load_J102 (gI S83 0 8) S83)))
def m_load_J62 (S_62 : MS) : Option (MS × Int32) := (if (gI S_62 0 7) = 0 then ((m_lookOver S_62).bind fun q70 => m_load_J73 q70) else m_load_J73 S_62)
def m_load_L41  : Nat → MS → Option (MS × Int32)
  | 0, _ => none
  | n + 1, S_41 => (if (gI S_41 0 7) = 0 then (if (gI S_41 0 5) = 0 then m_load_J62 S_41 else ((m_readStatement S_41).bind fun q56 => (m_load_L41 n) q56)) else m_load_J62 S_41)
def m_load_L12  : Nat → Int32 → MS → Option (MS × Int32)
  | 0, _, _ => none
  | n + 1, v1_12, S_12 => (if 5 ≤ v1_12 then ((m_next S_12).bind fun q38 => m_load_L41  600 q38) else ((m_own S_12).bind fun q23 => (if inbd ((5 * q23) + v1_12) 10 = true then (bd (pI S_12 2 (txN ((5 * q23) + v1_12)) 0) fun S30 => (bd ((v1_12 + 1)) fun a31 => (m_load_L12 n) a31 S30)) else none)))
def m_load (S : MS) : Option (MS × Int32) := (bd (pI S 0 7 0) fun S2 => (bd (pI S2 0 4 0) fun S7 => m_load_L12  600 0 S7))
set_option maxHeartbeats 4000000 in
set_option maxRecDepth 100000 in
theorem M_m_load {l : Launch} {D : va_G} {cA : Nat → ClassId} {b : Nat} {ad : Nat → Nat}  {S : MS} {T : CS} {o : Nat → Int64} {rr : (MS × Int32)}  (h : m_load  S = some rr) : Met l y_m_load (Cond.code y_m_load prog_14_method_38_code 2 (Option.some Jvm.ClassFile.FieldType.int) :: TW) { frames := 10, cells := 0, slots := 0, locals := 225 } (va_Pc [.ref (b + 262)] (Rp D cA b ad (T, S, o))) (Qr D cA b ad (T, rr.1, o) (some (.int rr.2))) 0 0 (Ab b) := by
  refine Ct_of (by decide) (Nat.le_of_ble_eq_true rfl) ?_
  intro p e R s m args below meth c ls Q H locs hR hQ hx hb hts hown hml hr hlk hC hX hS hl
  have hRf : R.frames = 10 := by rw [hR]
  have hRl : R.locals = 225 := by rw [hR]
  have hown : s.vm.findClass "TypeGuardModel" = some m.cls := hown
  have hl : lv_has ls 2 [(0, .ref (b + 262))] := hl
  rw [m_load] at h
  refine lv_aload_n hx hb d_m_load_0 rfl (lv_at hl 0 rfl) ?_
  refine lv_iconst (v := 0) hx hb d_m_load_1 (by decide) ?_
  refine m_put_0_7 (v := 0) hx hb hts hown hC hX hS (by rfl) (hts _ t_994) d_m_load_2 (fun H locs hX hS => ?_)
  obtain ⟨S2, e2, h⟩ := bd_some h
  rw [← e2] at hX
  refine lv_aload_n hx hb d_m_load_5 rfl (lv_at hl 0 rfl) ?_
  refine lv_iconst (v := 0) hx hb d_m_load_6 (by decide) ?_
  refine m_put_0_4 (v := 0) hx hb hts hown hC hX hS (by rfl) (hts _ t_991) d_m_load_7 (fun H locs hX hS => ?_)
  obtain ⟨S7, e7, h⟩ := bd_some h
  rw [← e7] at hX
  refine lv_iconst (v := 0) hx hb d_m_load_10 (by decide) ?_
  refine lv_istore_n (lv' := [(1, .int 0), (0, .ref (b + 262))]) hx hb d_m_load_11 rfl hl (by decide) rfl (fun ls hl => ?_)
  have L12 : ∀ (n12 : Nat) (v1_12 : Int32) (S_12 : MS) (H : Heap) (locs : List Loc) (ls : Array Slot), hp D cA b ad (T, S_12, o) H → va_S (Ab b) s.heap H locs → lv_has ls 2 [(0, .ref (b + 262)), (1, .int v1_12)] → m_load_L12  n12 v1_12 S_12 = some rr → W p l e R s m args below meth c H locs 0 0 Q (F0 m 12 ls []) := by
    intro n12; induction n12 with
    | zero => intro v1_12 S_12 H locs ls  hX hS hl h; rw [m_load_L12] at h; cases h
    | succ n12 ih12 =>
      intro v1_12 S_12 H locs ls  hX hS hl h
      rw [m_load_L12] at h
      refine lv_iload_n hx hb d_m_load_12 rfl (lv_at hl 1 rfl) ?_
      refine lv_iconst (v := 5) hx hb d_m_load_13 (by decide) ?_
      refine lv_icmp_ge hx hb d_m_load_14 (tgt := 37) (by decide) (fun hc => ?_) (fun hc => ?_)
      · rw [if_pos hc] at h
        refine lv_aload_n hx hb d_m_load_37 rfl (lv_at hl 0 rfl) ?_
        obtain ⟨q38, hc38, h⟩ := Option.bind_eq_some_iff.mp h
        refine ck_V (As := []) (rest := []) (st1 := []) (M_m_next  hc38) t_1149 t_1151 p_39 t_1152 t_13 hx hb hts hown hC hX hS (hrc_m0 hC hX (by rfl)) hml hl.1 ⟨by rw [hRf]; decide, by rw [hRl]; decide⟩ ⟨rfl, rfl⟩ (n := 0) (by decide +kernel) rfl rfl rfl (lv_room (Nat.le_of_ble_eq_true rfl)) d_m_load_38 (fun H locs hX hS => ?_)
        have L41 : ∀ (n41 : Nat) (S_41 : MS) (H : Heap) (locs : List Loc) (ls : Array Slot), hp D cA b ad (T, S_41, o) H → va_S (Ab b) s.heap H locs → lv_has ls 2 [(0, .ref (b + 262))] → m_load_L41  n41 S_41 = some rr → W p l e R s m args below meth c H locs 0 0 Q (F0 m 41 ls []) := by
          intro n41; induction n41 with
          | zero => intro S_41 H locs ls  hX hS hl h; rw [m_load_L41] at h; cases h
          | succ n41 ih41 =>
            intro S_41 H locs ls  hX hS hl h
            rw [m_load_L41] at h
            refine lv_aload_n hx hb d_m_load_41 rfl (lv_at hl 0 rfl) ?_
            refine m_get_0_7 hx hb hts hown hC hX (by rfl) (hts _ t_994) d_m_load_42 ?_
            have J62 : ∀  (H : Heap) (locs : List Loc) (ls : Array Slot), hp D cA b ad (T, S_41, o) H → va_S (Ab b) s.heap H locs → lv_has ls 2 [(0, .ref (b + 262))] → m_load_J62 S_41 = some rr → W p l e R s m args below meth c H locs 0 0 Q (F0 m 62 ls []) := by
              intro  H locs ls  hX hS hl h
              rw [m_load_J62] at h
              refine lv_aload_n hx hb d_m_load_62 rfl (lv_at hl 0 rfl) ?_
              refine m_get_0_7 hx hb hts hown hC hX (by rfl) (hts _ t_994) d_m_load_63 ?_
              have J73 : ∀ (S_73 : MS) (H : Heap) (locs : List Loc) (ls : Array Slot), hp D cA b ad (T, S_73, o) H → va_S (Ab b) s.heap H locs → lv_has ls 2 [(0, .ref (b + 262))] → m_load_J73 S_73 = some rr → W p l e R s m args below meth c H locs 0 0 Q (F0 m 73 ls []) := by
                intro S_73 H locs ls  hX hS hl h
                rw [m_load_J73] at h
                refine lv_aload_n hx hb d_m_load_73 rfl (lv_at hl 0 rfl) ?_
                refine lv_iconst (v := 0) hx hb d_m_load_74 (by decide) ?_
                refine m_put_0_2 (v := 0) hx hb hts hown hC hX hS (by rfl) (hts _ t_989) d_m_load_75 (fun H locs hX hS => ?_)
                obtain ⟨S75, e75, h⟩ := bd_some h
                rw [← e75] at hX
                refine lv_aload_n hx hb d_m_load_78 rfl (lv_at hl 0 rfl) ?_
                refine lv_aload_n hx hb d_m_load_79 rfl (lv_at hl 0 rfl) ?_
                refine m_get_0_7 hx hb hts hown hC hX (by rfl) (hts _ t_994) d_m_load_80 ?_
                refine m_put_0_9 (v := (gI S75 0 7)) hx hb hts hown hC hX hS (by rfl) (hts _ t_996) d_m_load_83 (fun H locs hX hS => ?_)
                obtain ⟨S83, e83, h⟩ := bd_some h
                rw [← e83] at hX
                refine lv_aload_n hx hb d_m_load_86 rfl (lv_at hl 0 rfl) ?_
                refine lv_aload_n hx hb d_m_load_87 rfl (lv_at hl 0 rfl) ?_
                refine m_get_0_7 hx hb hts hown hC hX (by rfl) (hts _ t_994) d_m_load_88 ?_
                have J102 : ∀ (s0_102 : Int32) (H : Heap) (locs : List Loc) (ls : Array Slot), hp D cA b ad (T, S83, o) H → va_S (Ab b) s.heap H locs → lv_has ls 2 [(0, .ref (b + 262))] → m_load_J102 s0_102 S83 = some rr → W p l e R s m args below meth c H locs 0 0 Q (F0 m 102 ls [.int s0_102, .ref (b + 262)]) := by
                  intro s0_102 H locs ls  hX hS hl h
                  rw [m_load_J102] at h
                  refine m_put_0_10 (v := s0_102) hx hb hts hown hC hX hS (by rfl) (hts _ t_997) d_m_load_102 (fun H locs hX hS => ?_)
                  obtain ⟨S102, e102, h⟩ := bd_some h
                  rw [← e102] at hX
                  refine lv_aload_n hx hb d_m_load_105 rfl (lv_at hl 0 rfl) ?_
                  refine m_get_0_7 hx hb hts hown hC hX (by rfl) (hts _ t_994) d_m_load_106 ?_
                  refine lv_if_eq hx hb d_m_load_109 (tgt := 119) (by decide) (fun hc => ?_) (fun hc => ?_)
                  · rw [if_pos hc] at h
                    refine lv_aload_n hx hb d_m_load_119 rfl (lv_at hl 0 rfl) ?_
                    refine lv_aload_n hx hb d_m_load_120 rfl (lv_at hl 0 rfl) ?_
                    obtain ⟨q121, hc121, h⟩ := Option.bind_eq_some_iff.mp h
                    refine ck_V (As := []) (rest := [.ref (b + 262)]) (st1 := [.int q121, .ref (b + 262)]) (M_m_own  hc121) t_1145 t_1147 p_38 t_1148 t_13 hx hb hts hown hC hX hS (hrc_m0 hC hX (by rfl)) hml hl.1 ⟨by rw [hRf]; decide, by rw [hRl]; decide⟩ ⟨rfl, rfl⟩ (n := 0) (by decide +kernel) rfl rfl rfl (lv_room (Nat.le_of_ble_eq_true rfl)) d_m_load_121 (fun H locs hX hS => ?_)
                    refine m_put_0_12 (v := q121) hx hb hts hown hC hX hS (by rfl) (hts _ t_999) d_m_load_124 (fun H locs hX hS => ?_)
                    obtain ⟨S124, e124, h⟩ := bd_some h
                    rw [← e124] at hX
                    refine lv_aload_n hx hb d_m_load_127 rfl (lv_at hl 0 rfl) ?_
                    refine lv_dup hx hb d_m_load_128 rfl ?_
                    refine m_get_0_34 hx hb hts hown hC hX (by rfl) (hts _ t_1021) d_m_load_129 ?_
                    refine lv_iconst (v := 1) hx hb d_m_load_132 (by decide) ?_
                    refine lv_iadd hx hb d_m_load_133 ?_
                    refine m_put_0_34 (v := ((gI S124 0 34) + 1)) hx hb hts hown hC hX hS (by rfl) (hts _ t_1021) d_m_load_134 (fun H locs hX hS => ?_)
                    obtain ⟨S134, e134, h⟩ := bd_some h
                    rw [← e134] at hX
                    refine lv_aload_n hx hb d_m_load_137 rfl (lv_at hl 0 rfl) ?_
                    refine lv_iconst (v := 0) hx hb d_m_load_138 (by decide) ?_
                    refine lv_aload_n hx hb d_m_load_139 rfl (lv_at hl 0 rfl) ?_
                    refine m_get_0_34 hx hb hts hown hC hX (by rfl) (hts _ t_1021) d_m_load_140 ?_
                    obtain ⟨q143, hc143, h⟩ := Option.bind_eq_some_iff.mp h
                    refine ck_V (As := [.int 0, .int (gI S134 0 34)]) (rest := []) (st1 := [.int q143.2]) (M_m_give  hc143) t_1288 t_1290 p_66 t_1291 t_13 hx hb hts hown hC hX hS (hrc_m0 hC hX (by rfl)) hml hl.1 ⟨by rw [hRf]; decide, by rw [hRl]; decide⟩ ⟨rfl, rfl⟩ (n := 2) (by decide +kernel) rfl rfl rfl (lv_room (Nat.le_of_ble_eq_true rfl)) d_m_load_143 (fun H locs hX hS => ?_)
                    obtain rfl := Option.some.inj h
                    exact rt_i hQ hx hb hr hX hS hlk d_m_load_146
                  · rw [if_neg hc] at h
                    refine lv_aload_n hx hb d_m_load_112 rfl (lv_at hl 0 rfl) ?_
                    refine lv_iconst (v := 1) hx hb d_m_load_113 (by decide) ?_
                    refine lv_iconst (v := 0) hx hb d_m_load_114 (by decide) ?_
                    obtain ⟨q115, hc115, h⟩ := Option.bind_eq_some_iff.mp h
                    refine ck_V (As := [.int 1, .int 0]) (rest := []) (st1 := [.int q115.2]) (M_m_give  hc115) t_1288 t_1290 p_66 t_1291 t_13 hx hb hts hown hC hX hS (hrc_m0 hC hX (by rfl)) hml hl.1 ⟨by rw [hRf]; decide, by rw [hRl]; decide⟩ ⟨rfl, rfl⟩ (n := 2) (by decide +kernel) rfl rfl rfl (lv_room (Nat.le_of_ble_eq_true rfl)) d_m_load_115 (fun H locs hX hS => ?_)
                    obtain rfl := Option.some.inj h
                    exact rt_i hQ hx hb hr hX hS hlk d_m_load_118
                refine lv_if_ne hx hb d_m_load_91 (tgt := 98) (by decide) (fun hc => ?_) (fun hc => ?_)
                · rw [if_neg hc] at h
                  refine lv_aload_n hx hb d_m_load_98 rfl (lv_at hl 0 rfl) ?_
                  refine m_get_0_8 hx hb hts hown hC hX (by rfl) (hts _ t_995) d_m_load_99 ?_
                  exact J102 (gI S83 0 8) H locs ls  hX hS (lv_sub hl [0] rfl) h
                · rw [if_pos hc] at h
                  refine lv_iconst (v := (-1)) hx hb d_m_load_94 (by decide) ?_
                  refine lv_goto hx hb d_m_load_95 (tgt := 102) (by decide) ?_
                  exact J102 (-1) H locs ls  hX hS (lv_sub hl [0] rfl) h
              refine lv_if_ne hx hb d_m_load_66 (tgt := 73) (by decide) (fun hc => ?_) (fun hc => ?_)
              · rw [if_neg hc] at h
                exact J73 S_41 H locs ls  hX hS (lv_sub hl [0] rfl) h
              · rw [if_pos hc] at h
                refine lv_aload_n hx hb d_m_load_69 rfl (lv_at hl 0 rfl) ?_
                obtain ⟨q70, hc70, h⟩ := Option.bind_eq_some_iff.mp h
                refine ck_V (As := []) (rest := []) (st1 := []) (M_m_lookOver  hc70) t_1268 t_1270 p_61 t_1271 t_13 hx hb hts hown hC hX hS (hrc_m0 hC hX (by rfl)) hml hl.1 ⟨by rw [hRf]; decide, by rw [hRl]; decide⟩ ⟨rfl, rfl⟩ (n := 0) (by decide +kernel) rfl rfl rfl (lv_room (Nat.le_of_ble_eq_true rfl)) d_m_load_70 (fun H locs hX hS => ?_)
                exact J73 q70 H locs ls  hX hS (lv_sub hl [0] rfl) h
            refine lv_if_ne hx hb d_m_load_45 (tgt := 62) (by decide) (fun hc => ?_) (fun hc => ?_)
            · rw [if_neg hc] at h
              exact J62  H locs ls  hX hS (lv_sub hl [0] rfl) h
            · rw [if_pos hc] at h
              refine lv_aload_n hx hb d_m_load_48 rfl (lv_at hl 0 rfl) ?_
              refine m_get_0_5 hx hb hts hown hC hX (by rfl) (hts _ t_992) d_m_load_49 ?_
              refine lv_if_eq hx hb d_m_load_52 (tgt := 62) (by decide) (fun hc => ?_) (fun hc => ?_)
              · rw [if_pos hc] at h
                exact J62  H locs ls  hX hS (lv_sub hl [0] rfl) h
              · rw [if_neg hc] at h
                refine lv_aload_n hx hb d_m_load_55 rfl (lv_at hl 0 rfl) ?_
                obtain ⟨q56, hc56, h⟩ := Option.bind_eq_some_iff.mp h
                refine ck_V (As := []) (rest := []) (st1 := []) (M_m_readStatement  hc56) t_1163 t_1165 p_41 t_1166 t_13 hx hb hts hown hC hX hS (hrc_m0 hC hX (by rfl)) hml hl.1 ⟨by rw [hRf]; decide, by rw [hRl]; decide⟩ ⟨rfl, rfl⟩ (n := 0) (by decide +kernel) rfl rfl rfl (lv_room (Nat.le_of_ble_eq_true rfl)) d_m_load_56 (fun H locs hX hS => ?_)
                refine lv_goto hx hb d_m_load_59 (tgt := 41) (by decide) ?_
                exact ih41 q56 H locs ls  hX hS (lv_sub hl [0] rfl) h
        exact L41 600 q38 H locs ls  hX hS (lv_sub hl [0] rfl) h
      · rw [if_neg hc] at h
        refine lv_aload_n hx hb d_m_load_17 rfl (lv_at hl 0 rfl) ?_
        refine m_get_0_13 hx hb hts hown hC hX (by rfl) (hts _ t_1000) d_m_load_18 ?_
        refine lv_iconst (v := 5) hx hb d_m_load_21 (by decide) ?_
        refine lv_aload_n hx hb d_m_load_22 rfl (lv_at hl 0 rfl) ?_
        obtain ⟨q23, hc23, h⟩ := Option.bind_eq_some_iff.mp h
        refine ck_V (As := []) (rest := [.int 5, .ref (b + 264)]) (st1 := [.int q23, .int 5, .ref (b + 264)]) (M_m_own  hc23) t_1145 t_1147 p_38 t_1148 t_13 hx hb hts hown hC hX hS (hrc_m0 hC hX (by rfl)) hml hl.1 ⟨by rw [hRf]; decide, by rw [hRl]; decide⟩ ⟨rfl, rfl⟩ (n := 0) (by decide +kernel) rfl rfl rfl (lv_room (Nat.le_of_ble_eq_true rfl)) d_m_load_23 (fun H locs hX hS => ?_)
        refine lv_imul hx hb d_m_load_26 ?_
        refine lv_iload_n hx hb d_m_load_27 rfl (lv_at hl 1 rfl) ?_
        refine lv_iadd hx hb d_m_load_28 ?_
        refine lv_iconst (v := 0) hx hb d_m_load_29 (by decide) ?_
        by_cases hg30 : inbd ((5 * q23) + v1_12) 10 = true
        rotate_left; · rw [if_neg hg30] at h; cases h
        rw [if_pos hg30] at h
        refine m_ast_1 (k := 2) (v := 0) hx hb hC hX hS (by rfl) hg30 d_m_load_30 (fun H locs hX hS => ?_)
        obtain ⟨S30, e30, h⟩ := bd_some h
        rw [← e30] at hX
        obtain ⟨a31, e31, h⟩ := bd_some h
        refine lv_iinc (v := a31) (lv' := [(1, .int a31), (0, .ref (b + 262))]) hx hb d_m_load_31 hl (k := 1) rfl e31.symm (by decide) rfl (fun ls hl => ?_)
        refine lv_goto hx hb d_m_load_34 (tgt := 12) (by decide) ?_
        exact ih12 a31 S30 H locs ls  hX hS (lv_sub hl [1, 0] rfl) h
  exact L12 600 0 S7 H locs ls  hX hS (lv_sub hl [1, 0] rfl) h
abbrev y_m_fault : MethodName := ({ cls := "TypeGuardModel", name := "fault", desc := "(I)I" } : Jvm.MethodName)
theorem d_m_fault_0 : decode prog_14_method_39_code 0 = .ok (.aload_n 0, 1) := by decide +kernel
theorem d_m_fault_1 : decode prog_14_method_39_code 1 = .ok (.iconst 0, 1) := by decide +kernel
theorem d_m_fault_2 : decode prog_14_method_39_code 2 = .ok (.iload_n 1, 1) := by decide +kernel
theorem d_m_fault_3 : decode prog_14_method_39_code 3 = .ok (.ifCond .ne 10, 3) := by decide +kernel
theorem d_m_fault_6 : decode prog_14_method_39_code 6 = .ok (.aload_n 0, 1) := by decide +kernel
theorem d_m_fault_7 : decode prog_14_method_39_code 7 = .ok (.getfield 281, 3) := by decide +kernel
theorem d_m_fault_10 : decode prog_14_method_39_code 10 = .ok (.goto 16, 3) := by decide +kernel
theorem d_m_fault_13 : decode prog_14_method_39_code 13 = .ok (.iload_n 1, 1) := by decide +kernel
theorem d_m_fault_14 : decode prog_14_method_39_code 14 = .ok (.iconst 1, 1) := by decide +kernel
theorem d_m_fault_15 : decode prog_14_method_39_code 15 = .ok (.if_icmp .ne 10, 3) := by decide +kernel
theorem d_m_fault_18 : decode prog_14_method_39_code 18 = .ok (.aload_n 0, 1) := by decide +kernel
theorem d_m_fault_19 : decode prog_14_method_39_code 19 = .ok (.getfield 13, 3) := by decide +kernel
theorem d_m_fault_22 : decode prog_14_method_39_code 22 = .ok (.goto 4, 3) := by decide +kernel
theorem d_m_fault_25 : decode prog_14_method_39_code 25 = .ok (.iconst (-1), 1) := by decide +kernel
theorem d_m_fault_26 : decode prog_14_method_39_code 26 = .ok (.invokevirtual 284, 3) := by decide +kernel
theorem d_m_fault_29 : decode prog_14_method_39_code 29 = .ok (.ireturn, 1) := by decide +kernel
def m_fault_J26 (s0_26 : Int32) (s1_26 : Int32) (S_26 : MS) : Option (MS × Int32) := ((m_give s1_26 s0_26 S_26).bind fun q26 => some (q26.1, q26.2))
def m_fault (x1 : Int32) (S : MS) : Option (MS × Int32) := (if x1 = 0 then m_fault_J26 (gI S 0 9) 0 S else (if x1 = 1 then m_fault_J26 (gI S 0 10) 0 S else m_fault_J26 (-1) 0 S))
set_option maxHeartbeats 4000000 in
set_option maxRecDepth 100000 in
theorem M_m_fault {l : Launch} {D : va_G} {cA : Nat → ClassId} {b : Nat} {ad : Nat → Nat} {x1 : Int32} {S : MS} {T : CS} {o : Nat → Int64} {rr : (MS × Int32)}  (h : m_fault x1 S = some rr) : Met l y_m_fault (Cond.code y_m_fault prog_14_method_39_code 2 (Option.some Jvm.ClassFile.FieldType.int) :: TW) { frames := 1, cells := 0, slots := 0, locals := 22 } (va_Pc [.ref (b + 262), .int x1] (Rp D cA b ad (T, S, o))) (Qr D cA b ad (T, rr.1, o) (some (.int rr.2))) 0 0 (Ab b) := by
  refine Ct_of (by decide) (Nat.le_of_ble_eq_true rfl) ?_
  intro p e R s m args below meth c ls Q H locs hR hQ hx hb hts hown hml hr hlk hC hX hS hl
  have hRf : R.frames = 1 := by rw [hR]
  have hRl : R.locals = 22 := by rw [hR]
  have hown : s.vm.findClass "TypeGuardModel" = some m.cls := hown
  have hl : lv_has ls 2 [(0, .ref (b + 262)), (1, .int x1)] := hl
  rw [m_fault] at h
  refine lv_aload_n hx hb d_m_fault_0 rfl (lv_at hl 0 rfl) ?_
  refine lv_iconst (v := 0) hx hb d_m_fault_1 (by decide) ?_
  refine lv_iload_n hx hb d_m_fault_2 rfl (lv_at hl 1 rfl) ?_
  have J26 : ∀ (s0_26 : Int32) (H : Heap) (locs : List Loc) (ls : Array Slot), hp D cA b ad (T, S, o) H → va_S (Ab b) s.heap H locs → lv_has ls 2 [] → m_fault_J26 s0_26 0 S = some rr → W p l e R s m args below meth c H locs 0 0 Q (F0 m 26 ls [.int s0_26, .int 0, .ref (b + 262)]) := by
    intro s0_26 H locs ls  hX hS hl h
    rw [m_fault_J26] at h
    obtain ⟨q26, hc26, h⟩ := Option.bind_eq_some_iff.mp h
    refine ck_V (As := [.int 0, .int s0_26]) (rest := []) (st1 := [.int q26.2]) (M_m_give  hc26) t_1288 t_1290 p_66 t_1291 t_13 hx hb hts hown hC hX hS (hrc_m0 hC hX (by rfl)) hml hl.1 ⟨by rw [hRf]; decide, by rw [hRl]; decide⟩ ⟨rfl, rfl⟩ (n := 2) (by decide +kernel) rfl rfl rfl (lv_room (Nat.le_of_ble_eq_true rfl)) d_m_fault_26 (fun H locs hX hS => ?_)
    obtain rfl := Option.some.inj h
    exact rt_i hQ hx hb hr hX hS hlk d_m_fault_29
  refine lv_if_ne hx hb d_m_fault_3 (tgt := 13) (by decide) (fun hc => ?_) (fun hc => ?_)
  · rw [if_neg hc] at h
    refine lv_iload_n hx hb d_m_fault_13 rfl (lv_at hl 1 rfl) ?_
    refine lv_iconst (v := 1) hx hb d_m_fault_14 (by decide) ?_
    refine lv_icmp_ne hx hb d_m_fault_15 (tgt := 25) (by decide) (fun hc => ?_) (fun hc => ?_)
    · rw [if_neg hc] at h
      refine lv_iconst (v := (-1)) hx hb d_m_fault_25 (by decide) ?_
      exact J26 (-1) H locs ls  hX hS (lv_sub hl [] rfl) h
    · rw [if_pos hc] at h
      refine lv_aload_n hx hb d_m_fault_18 rfl (lv_at hl 0 rfl) ?_
      refine m_get_0_10 hx hb hts hown hC hX (by rfl) (hts _ t_997) d_m_fault_19 ?_
      refine lv_goto hx hb d_m_fault_22 (tgt := 26) (by decide) ?_
      exact J26 (gI S 0 10) H locs ls  hX hS (lv_sub hl [] rfl) h
  · rw [if_pos hc] at h
    refine lv_aload_n hx hb d_m_fault_6 rfl (lv_at hl 0 rfl) ?_
    refine m_get_0_9 hx hb hts hown hC hX (by rfl) (hts _ t_996) d_m_fault_7 ?_
    refine lv_goto hx hb d_m_fault_10 (tgt := 26) (by decide) ?_
    exact J26 (gI S 0 9) H locs ls  hX hS (lv_sub hl [] rfl) h
abbrev y_m_count : MethodName := ({ cls := "TypeGuardModel", name := "count", desc := "(I)I" } : Jvm.MethodName)
theorem d_m_count_0 : decode prog_14_method_40_code 0 = .ok (.aload_n 0, 1) := by decide +kernel
theorem d_m_count_1 : decode prog_14_method_40_code 1 = .ok (.iconst 0, 1) := by decide +kernel
theorem d_m_count_2 : decode prog_14_method_40_code 2 = .ok (.putfield 106, 3) := by decide +kernel
theorem d_m_count_5 : decode prog_14_method_40_code 5 = .ok (.iload_n 1, 1) := by decide +kernel
theorem d_m_count_6 : decode prog_14_method_40_code 6 = .ok (.ifCond .lt 8, 3) := by decide +kernel
theorem d_m_count_9 : decode prog_14_method_40_code 9 = .ok (.iload_n 1, 1) := by decide +kernel
theorem d_m_count_10 : decode prog_14_method_40_code 10 = .ok (.iconst 5, 1) := by decide +kernel
theorem d_m_count_11 : decode prog_14_method_40_code 11 = .ok (.if_icmp .le 5, 3) := by decide +kernel
theorem d_m_count_14 : decode prog_14_method_40_code 14 = .ok (.iconst (-1), 1) := by decide +kernel
theorem d_m_count_15 : decode prog_14_method_40_code 15 = .ok (.ireturn, 1) := by decide +kernel
theorem d_m_count_16 : decode prog_14_method_40_code 16 = .ok (.iload_n 1, 1) := by decide +kernel
theorem d_m_count_17 : decode prog_14_method_40_code 17 = .ok (.ifCond .ne 17, 3) := by decide +kernel
theorem d_m_count_20 : decode prog_14_method_40_code 20 = .ok (.aload_n 0, 1) := by decide +kernel
theorem d_m_count_21 : decode prog_14_method_40_code 21 = .ok (.getfield 17, 3) := by decide +kernel
theorem d_m_count_24 : decode prog_14_method_40_code 24 = .ok (.iconst 5, 1) := by decide +kernel
theorem d_m_count_25 : decode prog_14_method_40_code 25 = .ok (.aload_n 0, 1) := by decide +kernel
theorem d_m_count_26 : decode prog_14_method_40_code 26 = .ok (.getfield 154, 3) := by decide +kernel
theorem d_m_count_29 : decode prog_14_method_40_code 29 = .ok (.imul, 1) := by decide +kernel
theorem d_m_count_30 : decode prog_14_method_40_code 30 = .ok (.iaload, 1) := by decide +kernel
theorem d_m_count_31 : decode prog_14_method_40_code 31 = .ok (.goto 42, 3) := by decide +kernel
theorem d_m_count_34 : decode prog_14_method_40_code 34 = .ok (.iload_n 1, 1) := by decide +kernel
theorem d_m_count_35 : decode prog_14_method_40_code 35 = .ok (.iconst 4, 1) := by decide +kernel
theorem d_m_count_36 : decode prog_14_method_40_code 36 = .ok (.if_icmp .ge 21, 3) := by decide +kernel
theorem d_m_count_39 : decode prog_14_method_40_code 39 = .ok (.aload_n 0, 1) := by decide +kernel
theorem d_m_count_40 : decode prog_14_method_40_code 40 = .ok (.getfield 17, 3) := by decide +kernel
theorem d_m_count_43 : decode prog_14_method_40_code 43 = .ok (.iconst 5, 1) := by decide +kernel
theorem d_m_count_44 : decode prog_14_method_40_code 44 = .ok (.aload_n 0, 1) := by decide +kernel
theorem d_m_count_45 : decode prog_14_method_40_code 45 = .ok (.getfield 154, 3) := by decide +kernel
theorem d_m_count_48 : decode prog_14_method_40_code 48 = .ok (.imul, 1) := by decide +kernel
theorem d_m_count_49 : decode prog_14_method_40_code 49 = .ok (.iload_n 1, 1) := by decide +kernel
theorem d_m_count_50 : decode prog_14_method_40_code 50 = .ok (.iadd, 1) := by decide +kernel
theorem d_m_count_51 : decode prog_14_method_40_code 51 = .ok (.iconst 1, 1) := by decide +kernel
theorem d_m_count_52 : decode prog_14_method_40_code 52 = .ok (.iadd, 1) := by decide +kernel
theorem d_m_count_53 : decode prog_14_method_40_code 53 = .ok (.iaload, 1) := by decide +kernel
theorem d_m_count_54 : decode prog_14_method_40_code 54 = .ok (.goto 19, 3) := by decide +kernel
theorem d_m_count_57 : decode prog_14_method_40_code 57 = .ok (.iload_n 1, 1) := by decide +kernel
theorem d_m_count_58 : decode prog_14_method_40_code 58 = .ok (.iconst 4, 1) := by decide +kernel
theorem d_m_count_59 : decode prog_14_method_40_code 59 = .ok (.if_icmp .ne 10, 3) := by decide +kernel
theorem d_m_count_62 : decode prog_14_method_40_code 62 = .ok (.aload_n 0, 1) := by decide +kernel
theorem d_m_count_63 : decode prog_14_method_40_code 63 = .ok (.getfield 287, 3) := by decide +kernel
theorem d_m_count_66 : decode prog_14_method_40_code 66 = .ok (.goto 7, 3) := by decide +kernel
theorem d_m_count_69 : decode prog_14_method_40_code 69 = .ok (.aload_n 0, 1) := by decide +kernel
theorem d_m_count_70 : decode prog_14_method_40_code 70 = .ok (.getfield 125, 3) := by decide +kernel
theorem d_m_count_73 : decode prog_14_method_40_code 73 = .ok (.ireturn, 1) := by decide +kernel
def m_count (x1 : Int32) (S : MS) : Option (MS × Int32) := (bd (pI S 0 0 0) fun S2 => (if x1 < 0 then some (S2, (-1)) else (if x1 ≤ 5 then (if x1 = 0 then (if inbd (5 * (gI S2 0 12)) 10 = true then some (S2, (gI S2 2 (txN (5 * (gI S2 0 12))))) else none) else (if 4 ≤ x1 then (if x1 = 4 then some (S2, (gI S2 0 34)) else some (S2, (gI S2 0 2))) else (if inbd (((5 * (gI S2 0 12)) + x1) + 1) 10 = true then some (S2, (gI S2 2 (txN (((5 * (gI S2 0 12)) + x1) + 1)))) else none))) else some (S2, (-1)))))
set_option maxHeartbeats 4000000 in
set_option maxRecDepth 100000 in
theorem M_m_count {l : Launch} {D : va_G} {cA : Nat → ClassId} {b : Nat} {ad : Nat → Nat} {x1 : Int32} {S : MS} {T : CS} {o : Nat → Int64} {rr : (MS × Int32)}  (h : m_count x1 S = some rr) : Met l y_m_count (Cond.code y_m_count prog_14_method_40_code 2 (Option.some Jvm.ClassFile.FieldType.int) :: TW) { frames := 0, cells := 0, slots := 0, locals := 0 } (va_Pc [.ref (b + 262), .int x1] (Rp D cA b ad (T, S, o))) (Qr D cA b ad (T, rr.1, o) (some (.int rr.2))) 0 0 (Ab b) := by
  refine Ct_of (by decide) (Nat.le_of_ble_eq_true rfl) ?_
  intro p e R s m args below meth c ls Q H locs hR hQ hx hb hts hown hml hr hlk hC hX hS hl
  have hRf : R.frames = 0 := by rw [hR]
  have hRl : R.locals = 0 := by rw [hR]
  have hown : s.vm.findClass "TypeGuardModel" = some m.cls := hown
  have hl : lv_has ls 2 [(0, .ref (b + 262)), (1, .int x1)] := hl
  rw [m_count] at h
  refine lv_aload_n hx hb d_m_count_0 rfl (lv_at hl 0 rfl) ?_
  refine lv_iconst (v := 0) hx hb d_m_count_1 (by decide) ?_
  refine m_put_0_0 (v := 0) hx hb hts hown hC hX hS (by rfl) (hts _ t_987) d_m_count_2 (fun H locs hX hS => ?_)
  obtain ⟨S2, e2, h⟩ := bd_some h
  rw [← e2] at hX
  refine lv_iload_n hx hb d_m_count_5 rfl (lv_at hl 1 rfl) ?_
  refine lv_if_lt hx hb d_m_count_6 (tgt := 14) (by decide) (fun hc => ?_) (fun hc => ?_)
  · rw [if_pos hc] at h
    refine lv_iconst (v := (-1)) hx hb d_m_count_14 (by decide) ?_
    obtain rfl := Option.some.inj h
    exact rt_i hQ hx hb hr hX hS hlk d_m_count_15
  · rw [if_neg hc] at h
    refine lv_iload_n hx hb d_m_count_9 rfl (lv_at hl 1 rfl) ?_
    refine lv_iconst (v := 5) hx hb d_m_count_10 (by decide) ?_
    refine lv_icmp_le hx hb d_m_count_11 (tgt := 16) (by decide) (fun hc => ?_) (fun hc => ?_)
    · rw [if_pos hc] at h
      refine lv_iload_n hx hb d_m_count_16 rfl (lv_at hl 1 rfl) ?_
      refine lv_if_ne hx hb d_m_count_17 (tgt := 34) (by decide) (fun hc => ?_) (fun hc => ?_)
      · rw [if_neg hc] at h
        refine lv_iload_n hx hb d_m_count_34 rfl (lv_at hl 1 rfl) ?_
        refine lv_iconst (v := 4) hx hb d_m_count_35 (by decide) ?_
        refine lv_icmp_ge hx hb d_m_count_36 (tgt := 57) (by decide) (fun hc => ?_) (fun hc => ?_)
        · rw [if_pos hc] at h
          refine lv_iload_n hx hb d_m_count_57 rfl (lv_at hl 1 rfl) ?_
          refine lv_iconst (v := 4) hx hb d_m_count_58 (by decide) ?_
          refine lv_icmp_ne hx hb d_m_count_59 (tgt := 69) (by decide) (fun hc => ?_) (fun hc => ?_)
          · rw [if_neg hc] at h
            refine lv_aload_n hx hb d_m_count_69 rfl (lv_at hl 0 rfl) ?_
            refine m_get_0_2 hx hb hts hown hC hX (by rfl) (hts _ t_989) d_m_count_70 ?_
            obtain rfl := Option.some.inj h
            exact rt_i hQ hx hb hr hX hS hlk d_m_count_73
          · rw [if_pos hc] at h
            refine lv_aload_n hx hb d_m_count_62 rfl (lv_at hl 0 rfl) ?_
            refine m_get_0_34 hx hb hts hown hC hX (by rfl) (hts _ t_1021) d_m_count_63 ?_
            refine lv_goto hx hb d_m_count_66 (tgt := 73) (by decide) ?_
            obtain rfl := Option.some.inj h
            exact rt_i hQ hx hb hr hX hS hlk d_m_count_73
        · rw [if_neg hc] at h
          refine lv_aload_n hx hb d_m_count_39 rfl (lv_at hl 0 rfl) ?_
          refine m_get_0_13 hx hb hts hown hC hX (by rfl) (hts _ t_1000) d_m_count_40 ?_
          refine lv_iconst (v := 5) hx hb d_m_count_43 (by decide) ?_
          refine lv_aload_n hx hb d_m_count_44 rfl (lv_at hl 0 rfl) ?_
          refine m_get_0_12 hx hb hts hown hC hX (by rfl) (hts _ t_999) d_m_count_45 ?_
          refine lv_imul hx hb d_m_count_48 ?_
          refine lv_iload_n hx hb d_m_count_49 rfl (lv_at hl 1 rfl) ?_
          refine lv_iadd hx hb d_m_count_50 ?_
          refine lv_iconst (v := 1) hx hb d_m_count_51 (by decide) ?_
          refine lv_iadd hx hb d_m_count_52 ?_
          by_cases hg53 : inbd (((5 * (gI S2 0 12)) + x1) + 1) 10 = true
          rotate_left; · rw [if_neg hg53] at h; cases h
          rw [if_pos hg53] at h
          refine m_ald_1 (k := 2) hx hb hC hX (by rfl) hg53 d_m_count_53 ?_
          refine lv_goto hx hb d_m_count_54 (tgt := 73) (by decide) ?_
          obtain rfl := Option.some.inj h
          exact rt_i hQ hx hb hr hX hS hlk d_m_count_73
      · rw [if_pos hc] at h
        refine lv_aload_n hx hb d_m_count_20 rfl (lv_at hl 0 rfl) ?_
        refine m_get_0_13 hx hb hts hown hC hX (by rfl) (hts _ t_1000) d_m_count_21 ?_
        refine lv_iconst (v := 5) hx hb d_m_count_24 (by decide) ?_
        refine lv_aload_n hx hb d_m_count_25 rfl (lv_at hl 0 rfl) ?_
        refine m_get_0_12 hx hb hts hown hC hX (by rfl) (hts _ t_999) d_m_count_26 ?_
        refine lv_imul hx hb d_m_count_29 ?_
        by_cases hg30 : inbd (5 * (gI S2 0 12)) 10 = true
        rotate_left; · rw [if_neg hg30] at h; cases h
        rw [if_pos hg30] at h
        refine m_ald_1 (k := 2) hx hb hC hX (by rfl) hg30 d_m_count_30 ?_
        refine lv_goto hx hb d_m_count_31 (tgt := 73) (by decide) ?_
        obtain rfl := Option.some.inj h
        exact rt_i hQ hx hb hr hX hS hlk d_m_count_73
    · rw [if_neg hc] at h
      refine lv_iconst (v := (-1)) hx hb d_m_count_14 (by decide) ?_
      obtain rfl := Option.some.inj h
      exact rt_i hQ hx hb hr hX hS hlk d_m_count_15
abbrev y_m_flip : MethodName := ({ cls := "TypeGuardModel", name := "flip", desc := "(IZ)Z" } : Jvm.MethodName)
theorem d_m_flip_0 : decode prog_14_method_41_code 0 = .ok (.aload_n 0, 1) := by decide +kernel
theorem d_m_flip_1 : decode prog_14_method_41_code 1 = .ok (.iload_n 1, 1) := by decide +kernel
theorem d_m_flip_2 : decode prog_14_method_41_code 2 = .ok (.ifCond .lt 24, 3) := by decide +kernel
theorem d_m_flip_5 : decode prog_14_method_41_code 5 = .ok (.iload_n 1, 1) := by decide +kernel
theorem d_m_flip_6 : decode prog_14_method_41_code 6 = .ok (.aload_n 0, 1) := by decide +kernel
theorem d_m_flip_7 : decode prog_14_method_41_code 7 = .ok (.getfield 17, 3) := by decide +kernel
theorem d_m_flip_10 : decode prog_14_method_41_code 10 = .ok (.iconst 5, 1) := by decide +kernel
theorem d_m_flip_11 : decode prog_14_method_41_code 11 = .ok (.aload_n 0, 1) := by decide +kernel
theorem d_m_flip_12 : decode prog_14_method_41_code 12 = .ok (.getfield 154, 3) := by decide +kernel
theorem d_m_flip_15 : decode prog_14_method_41_code 15 = .ok (.imul, 1) := by decide +kernel
theorem d_m_flip_16 : decode prog_14_method_41_code 16 = .ok (.iconst 3, 1) := by decide +kernel
theorem d_m_flip_17 : decode prog_14_method_41_code 17 = .ok (.iadd, 1) := by decide +kernel
theorem d_m_flip_18 : decode prog_14_method_41_code 18 = .ok (.iaload, 1) := by decide +kernel
theorem d_m_flip_19 : decode prog_14_method_41_code 19 = .ok (.if_icmp .ge 7, 3) := by decide +kernel
theorem d_m_flip_22 : decode prog_14_method_41_code 22 = .ok (.iconst 0, 1) := by decide +kernel
theorem d_m_flip_23 : decode prog_14_method_41_code 23 = .ok (.goto 4, 3) := by decide +kernel
theorem d_m_flip_26 : decode prog_14_method_41_code 26 = .ok (.iconst 1, 1) := by decide +kernel
theorem d_m_flip_27 : decode prog_14_method_41_code 27 = .ok (.putfield 106, 3) := by decide +kernel
theorem d_m_flip_30 : decode prog_14_method_41_code 30 = .ok (.aload_n 0, 1) := by decide +kernel
theorem d_m_flip_31 : decode prog_14_method_41_code 31 = .ok (.getfield 106, 3) := by decide +kernel
theorem d_m_flip_34 : decode prog_14_method_41_code 34 = .ok (.ifCond .le 5, 3) := by decide +kernel
theorem d_m_flip_37 : decode prog_14_method_41_code 37 = .ok (.iconst 0, 1) := by decide +kernel
theorem d_m_flip_38 : decode prog_14_method_41_code 38 = .ok (.ireturn, 1) := by decide +kernel
theorem d_m_flip_39 : decode prog_14_method_41_code 39 = .ok (.aload_n 0, 1) := by decide +kernel
theorem d_m_flip_40 : decode prog_14_method_41_code 40 = .ok (.getfield 42, 3) := by decide +kernel
theorem d_m_flip_43 : decode prog_14_method_41_code 43 = .ok (.iconst 3, 1) := by decide +kernel
theorem d_m_flip_44 : decode prog_14_method_41_code 44 = .ok (.aload_n 0, 1) := by decide +kernel
theorem d_m_flip_45 : decode prog_14_method_41_code 45 = .ok (.getfield 154, 3) := by decide +kernel
theorem d_m_flip_48 : decode prog_14_method_41_code 48 = .ok (.imul, 1) := by decide +kernel
theorem d_m_flip_49 : decode prog_14_method_41_code 49 = .ok (.iload_n 1, 1) := by decide +kernel
theorem d_m_flip_50 : decode prog_14_method_41_code 50 = .ok (.iadd, 1) := by decide +kernel
theorem d_m_flip_51 : decode prog_14_method_41_code 51 = .ok (.baload, 1) := by decide +kernel
theorem d_m_flip_52 : decode prog_14_method_41_code 52 = .ok (.istore_n 3, 1) := by decide +kernel
theorem d_m_flip_53 : decode prog_14_method_41_code 53 = .ok (.aload_n 0, 1) := by decide +kernel
theorem d_m_flip_54 : decode prog_14_method_41_code 54 = .ok (.getfield 42, 3) := by decide +kernel
theorem d_m_flip_57 : decode prog_14_method_41_code 57 = .ok (.iconst 3, 1) := by decide +kernel
theorem d_m_flip_58 : decode prog_14_method_41_code 58 = .ok (.aload_n 0, 1) := by decide +kernel
theorem d_m_flip_59 : decode prog_14_method_41_code 59 = .ok (.getfield 154, 3) := by decide +kernel
theorem d_m_flip_62 : decode prog_14_method_41_code 62 = .ok (.imul, 1) := by decide +kernel
theorem d_m_flip_63 : decode prog_14_method_41_code 63 = .ok (.iload_n 1, 1) := by decide +kernel
theorem d_m_flip_64 : decode prog_14_method_41_code 64 = .ok (.iadd, 1) := by decide +kernel
theorem d_m_flip_65 : decode prog_14_method_41_code 65 = .ok (.iload_n 2, 1) := by decide +kernel
theorem d_m_flip_66 : decode prog_14_method_41_code 66 = .ok (.bastore, 1) := by decide +kernel
theorem d_m_flip_67 : decode prog_14_method_41_code 67 = .ok (.aload_n 0, 1) := by decide +kernel
theorem d_m_flip_68 : decode prog_14_method_41_code 68 = .ok (.dup, 1) := by decide +kernel
theorem d_m_flip_69 : decode prog_14_method_41_code 69 = .ok (.getfield 287, 3) := by decide +kernel
theorem d_m_flip_72 : decode prog_14_method_41_code 72 = .ok (.iload_n 3, 1) := by decide +kernel
theorem d_m_flip_73 : decode prog_14_method_41_code 73 = .ok (.iload_n 2, 1) := by decide +kernel
theorem d_m_flip_74 : decode prog_14_method_41_code 74 = .ok (.if_icmp .ne 7, 3) := by decide +kernel
theorem d_m_flip_77 : decode prog_14_method_41_code 77 = .ok (.iconst 0, 1) := by decide +kernel
theorem d_m_flip_78 : decode prog_14_method_41_code 78 = .ok (.goto 4, 3) := by decide +kernel
theorem d_m_flip_81 : decode prog_14_method_41_code 81 = .ok (.iconst 1, 1) := by decide +kernel
theorem d_m_flip_82 : decode prog_14_method_41_code 82 = .ok (.iadd, 1) := by decide +kernel
theorem d_m_flip_83 : decode prog_14_method_41_code 83 = .ok (.putfield 287, 3) := by decide +kernel
theorem d_m_flip_86 : decode prog_14_method_41_code 86 = .ok (.iload_n 3, 1) := by decide +kernel
theorem d_m_flip_87 : decode prog_14_method_41_code 87 = .ok (.ireturn, 1) := by decide +kernel
def m_flip_J27 (v1_27 : Int32) (v2_27 : Bool) (s0_27 : Bool) (S_27 : MS) : Option (MS × Bool) := (bd (pI S_27 0 0 (bI s0_27)) fun S27 => (if (gI S27 0 0) ≤ 0 then (if inbd ((3 * (gI S27 0 12)) + v1_27) 6 = true then (bd ((gB S27 10 (txN ((3 * (gI S27 0 12)) + v1_27)))) fun a52 => (if inbd ((3 * (gI S27 0 12)) + v1_27) 6 = true then (bd (pB S27 10 (txN ((3 * (gI S27 0 12)) + v1_27)) v2_27) fun S66 => (if (bI a52) = (bI v2_27) then (bd (pI S66 0 34 ((gI S66 0 34) + 0)) fun S83 => some (S83, a52)) else (bd (pI S66 0 34 ((gI S66 0 34) + 1)) fun S83 => some (S83, a52)))) else none)) else none) else some (S27, false)))
def m_flip_J26 (v1_26 : Int32) (v2_26 : Bool) (S_26 : MS) : Option (MS × Bool) := m_flip_J27 v1_26 v2_26 true S_26
def m_flip (x1 : Int32) (x2 : Bool) (S : MS) : Option (MS × Bool) := (if x1 < 0 then m_flip_J26 x1 x2 S else (if inbd ((5 * (gI S 0 12)) + 3) 10 = true then (if (gI S 2 (txN ((5 * (gI S 0 12)) + 3))) ≤ x1 then m_flip_J26 x1 x2 S else m_flip_J27 x1 x2 false S) else none))
set_option maxHeartbeats 4000000 in
set_option maxRecDepth 100000 in
theorem M_m_flip {l : Launch} {D : va_G} {cA : Nat → ClassId} {b : Nat} {ad : Nat → Nat} {x1 : Int32} {x2 : Bool} {S : MS} {T : CS} {o : Nat → Int64} {rr : (MS × Bool)}  (h : m_flip x1 x2 S = some rr) : Met l y_m_flip (Cond.code y_m_flip prog_14_method_41_code 4 (Option.some Jvm.ClassFile.FieldType.boolean) :: TW) { frames := 0, cells := 0, slots := 0, locals := 0 } (va_Pc [.ref (b + 262), .int x1, .int (bI x2)] (Rp D cA b ad (T, S, o))) (Qr D cA b ad (T, rr.1, o) (some (.int (bI rr.2)))) 0 0 (Ab b) := by
  refine Ct_of (by decide) (Nat.le_of_ble_eq_true rfl) ?_
  intro p e R s m args below meth c ls Q H locs hR hQ hx hb hts hown hml hr hlk hC hX hS hl
  have hRf : R.frames = 0 := by rw [hR]
  have hRl : R.locals = 0 := by rw [hR]
  have hown : s.vm.findClass "TypeGuardModel" = some m.cls := hown
  have hl : lv_has ls 4 [(0, .ref (b + 262)), (1, .int x1), (2, .int (bI x2))] := hl
  rw [m_flip] at h
  refine lv_aload_n hx hb d_m_flip_0 rfl (lv_at hl 0 rfl) ?_
  refine lv_iload_n hx hb d_m_flip_1 rfl (lv_at hl 1 rfl) ?_
  have J27 : ∀ (s0_27 : Bool) (H : Heap) (locs : List Loc) (ls : Array Slot), hp D cA b ad (T, S, o) H → va_S (Ab b) s.heap H locs → lv_has ls 4 [(0, .ref (b + 262)), (1, .int x1), (2, .int (bI x2))] → m_flip_J27 x1 x2 s0_27 S = some rr → W p l e R s m args below meth c H locs 0 0 Q (F0 m 27 ls [.int (bI s0_27), .ref (b + 262)]) := by
    intro s0_27 H locs ls  hX hS hl h
    rw [m_flip_J27] at h
    refine m_put_0_0 (v := (bI s0_27)) hx hb hts hown hC hX hS (by rfl) (hts _ t_987) d_m_flip_27 (fun H locs hX hS => ?_)
    obtain ⟨S27, e27, h⟩ := bd_some h
    rw [← e27] at hX
    refine lv_aload_n hx hb d_m_flip_30 rfl (lv_at hl 0 rfl) ?_
    refine m_get_0_0 hx hb hts hown hC hX (by rfl) (hts _ t_987) d_m_flip_31 ?_
    refine lv_if_le hx hb d_m_flip_34 (tgt := 39) (by decide) (fun hc => ?_) (fun hc => ?_)
    · rw [if_pos hc] at h
      refine lv_aload_n hx hb d_m_flip_39 rfl (lv_at hl 0 rfl) ?_
      refine m_get_0_21 hx hb hts hown hC hX (by rfl) (hts _ t_1008) d_m_flip_40 ?_
      refine lv_iconst (v := 3) hx hb d_m_flip_43 (by decide) ?_
      refine lv_aload_n hx hb d_m_flip_44 rfl (lv_at hl 0 rfl) ?_
      refine m_get_0_12 hx hb hts hown hC hX (by rfl) (hts _ t_999) d_m_flip_45 ?_
      refine lv_imul hx hb d_m_flip_48 ?_
      refine lv_iload_n hx hb d_m_flip_49 rfl (lv_at hl 1 rfl) ?_
      refine lv_iadd hx hb d_m_flip_50 ?_
      by_cases hg51 : inbd ((3 * (gI S27 0 12)) + x1) 6 = true
      rotate_left; · rw [if_neg hg51] at h; cases h
      rw [if_pos hg51] at h
      refine m_ald_3 (k := 10) hx hb hC hX (by rfl) hg51 d_m_flip_51 ?_
      obtain ⟨a52, e52, h⟩ := bd_some h
      refine lt_Z e52 ?_
      refine lv_istore_n (lv' := [(3, .int (bI a52)), (0, .ref (b + 262)), (1, .int x1), (2, .int (bI x2))]) hx hb d_m_flip_52 rfl hl (by decide) rfl (fun ls hl => ?_)
      refine lv_aload_n hx hb d_m_flip_53 rfl (lv_at hl 1 rfl) ?_
      refine m_get_0_21 hx hb hts hown hC hX (by rfl) (hts _ t_1008) d_m_flip_54 ?_
      refine lv_iconst (v := 3) hx hb d_m_flip_57 (by decide) ?_
      refine lv_aload_n hx hb d_m_flip_58 rfl (lv_at hl 1 rfl) ?_
      refine m_get_0_12 hx hb hts hown hC hX (by rfl) (hts _ t_999) d_m_flip_59 ?_
      refine lv_imul hx hb d_m_flip_62 ?_
      refine lv_iload_n hx hb d_m_flip_63 rfl (lv_at hl 2 rfl) ?_
      refine lv_iadd hx hb d_m_flip_64 ?_
      refine lv_iload_n hx hb d_m_flip_65 rfl (lv_at hl 3 rfl) ?_
      by_cases hg66 : inbd ((3 * (gI S27 0 12)) + x1) 6 = true
      rotate_left; · rw [if_neg hg66] at h; cases h
      rw [if_pos hg66] at h
      refine m_ast_3 (k := 10) (v := x2) hx hb hC hX hS (by rfl) hg66 d_m_flip_66 (fun H locs hX hS => ?_)
      obtain ⟨S66, e66, h⟩ := bd_some h
      rw [← e66] at hX
      refine lv_aload_n hx hb d_m_flip_67 rfl (lv_at hl 1 rfl) ?_
      refine lv_dup hx hb d_m_flip_68 rfl ?_
      refine m_get_0_34 hx hb hts hown hC hX (by rfl) (hts _ t_1021) d_m_flip_69 ?_
      refine lv_iload_n hx hb d_m_flip_72 rfl (lv_at hl 0 rfl) ?_
      refine lv_iload_n hx hb d_m_flip_73 rfl (lv_at hl 3 rfl) ?_
      refine lv_icmp_ne hx hb d_m_flip_74 (tgt := 81) (by decide) (fun hc => ?_) (fun hc => ?_)
      · rw [if_neg hc] at h
        refine lv_iconst (v := 1) hx hb d_m_flip_81 (by decide) ?_
        refine lv_iadd hx hb d_m_flip_82 ?_
        refine m_put_0_34 (v := ((gI S66 0 34) + 1)) hx hb hts hown hC hX hS (by rfl) (hts _ t_1021) d_m_flip_83 (fun H locs hX hS => ?_)
        obtain ⟨S83, e83, h⟩ := bd_some h
        rw [← e83] at hX
        refine lv_iload_n hx hb d_m_flip_86 rfl (lv_at hl 0 rfl) ?_
        obtain rfl := Option.some.inj h
        exact rt_z hQ hx hb hr hX hS hlk d_m_flip_87
      · rw [if_pos hc] at h
        refine lv_iconst (v := 0) hx hb d_m_flip_77 (by decide) ?_
        refine lv_goto hx hb d_m_flip_78 (tgt := 82) (by decide) ?_
        refine lv_iadd hx hb d_m_flip_82 ?_
        refine m_put_0_34 (v := ((gI S66 0 34) + 0)) hx hb hts hown hC hX hS (by rfl) (hts _ t_1021) d_m_flip_83 (fun H locs hX hS => ?_)
        obtain ⟨S83, e83, h⟩ := bd_some h
        rw [← e83] at hX
        refine lv_iload_n hx hb d_m_flip_86 rfl (lv_at hl 0 rfl) ?_
        obtain rfl := Option.some.inj h
        exact rt_z hQ hx hb hr hX hS hlk d_m_flip_87
    · rw [if_neg hc] at h
      refine lv_iconst (v := 0) hx hb d_m_flip_37 (by decide) ?_
      obtain rfl := Option.some.inj h
      exact rt_zf hQ hx hb hr hX hS hlk d_m_flip_38
  have J26 : ∀  (H : Heap) (locs : List Loc) (ls : Array Slot), hp D cA b ad (T, S, o) H → va_S (Ab b) s.heap H locs → lv_has ls 4 [(0, .ref (b + 262)), (1, .int x1), (2, .int (bI x2))] → m_flip_J26 x1 x2 S = some rr → W p l e R s m args below meth c H locs 0 0 Q (F0 m 26 ls [.ref (b + 262)]) := by
    intro  H locs ls  hX hS hl h
    rw [m_flip_J26] at h
    refine lv_iconst (v := 1) hx hb d_m_flip_26 (by decide) ?_
    exact J27 true H locs ls  hX hS (lv_sub hl [0, 1, 2] rfl) h
  refine lv_if_lt hx hb d_m_flip_2 (tgt := 26) (by decide) (fun hc => ?_) (fun hc => ?_)
  · rw [if_pos hc] at h
    exact J26  H locs ls  hX hS (lv_sub hl [0, 1, 2] rfl) h
  · rw [if_neg hc] at h
    refine lv_iload_n hx hb d_m_flip_5 rfl (lv_at hl 1 rfl) ?_
    refine lv_aload_n hx hb d_m_flip_6 rfl (lv_at hl 0 rfl) ?_
    refine m_get_0_13 hx hb hts hown hC hX (by rfl) (hts _ t_1000) d_m_flip_7 ?_
    refine lv_iconst (v := 5) hx hb d_m_flip_10 (by decide) ?_
    refine lv_aload_n hx hb d_m_flip_11 rfl (lv_at hl 0 rfl) ?_
    refine m_get_0_12 hx hb hts hown hC hX (by rfl) (hts _ t_999) d_m_flip_12 ?_
    refine lv_imul hx hb d_m_flip_15 ?_
    refine lv_iconst (v := 3) hx hb d_m_flip_16 (by decide) ?_
    refine lv_iadd hx hb d_m_flip_17 ?_
    by_cases hg18 : inbd ((5 * (gI S 0 12)) + 3) 10 = true
    rotate_left; · rw [if_neg hg18] at h; cases h
    rw [if_pos hg18] at h
    refine m_ald_1 (k := 2) hx hb hC hX (by rfl) hg18 d_m_flip_18 ?_
    refine lv_icmp_ge hx hb d_m_flip_19 (tgt := 26) (by decide) (fun hc => ?_) (fun hc => ?_)
    · rw [if_pos hc] at h
      exact J26  H locs ls  hX hS (lv_sub hl [0, 1, 2] rfl) h
    · rw [if_neg hc] at h
      refine lv_iconst (v := 0) hx hb d_m_flip_22 (by decide) ?_
      refine lv_goto hx hb d_m_flip_23 (tgt := 27) (by decide) ?_
      exact J27 false H locs ls  hX hS (lv_sub hl [0, 1, 2] rfl) h
abbrev y_m_isType : MethodName := ({ cls := "TypeGuardModel", name := "isType", desc := "(I)Z" } : Jvm.MethodName)
theorem d_m_isType_0 : decode prog_14_method_42_code 0 = .ok (.iload_n 1, 1) := by decide +kernel
theorem d_m_isType_1 : decode prog_14_method_42_code 1 = .ok (.ifCond .lt 22, 3) := by decide +kernel
theorem d_m_isType_4 : decode prog_14_method_42_code 4 = .ok (.iload_n 1, 1) := by decide +kernel
theorem d_m_isType_5 : decode prog_14_method_42_code 5 = .ok (.aload_n 0, 1) := by decide +kernel
theorem d_m_isType_6 : decode prog_14_method_42_code 6 = .ok (.getfield 17, 3) := by decide +kernel
theorem d_m_isType_9 : decode prog_14_method_42_code 9 = .ok (.iconst 5, 1) := by decide +kernel
theorem d_m_isType_10 : decode prog_14_method_42_code 10 = .ok (.aload_n 0, 1) := by decide +kernel
theorem d_m_isType_11 : decode prog_14_method_42_code 11 = .ok (.getfield 154, 3) := by decide +kernel
theorem d_m_isType_14 : decode prog_14_method_42_code 14 = .ok (.imul, 1) := by decide +kernel
theorem d_m_isType_15 : decode prog_14_method_42_code 15 = .ok (.iaload, 1) := by decide +kernel
theorem d_m_isType_16 : decode prog_14_method_42_code 16 = .ok (.if_icmp .ge 7, 3) := by decide +kernel
theorem d_m_isType_19 : decode prog_14_method_42_code 19 = .ok (.iconst 1, 1) := by decide +kernel
theorem d_m_isType_20 : decode prog_14_method_42_code 20 = .ok (.goto 4, 3) := by decide +kernel
theorem d_m_isType_23 : decode prog_14_method_42_code 23 = .ok (.iconst 0, 1) := by decide +kernel
theorem d_m_isType_24 : decode prog_14_method_42_code 24 = .ok (.ireturn, 1) := by decide +kernel
def m_isType (x1 : Int32) (S : MS) : Option Bool := (if x1 < 0 then some false else (if inbd (5 * (gI S 0 12)) 10 = true then (if (gI S 2 (txN (5 * (gI S 0 12)))) ≤ x1 then some false else some true) else none))
set_option maxHeartbeats 4000000 in
set_option maxRecDepth 100000 in
theorem M_m_isType {l : Launch} {D : va_G} {cA : Nat → ClassId} {b : Nat} {ad : Nat → Nat} {x1 : Int32} {S : MS} {T : CS} {o : Nat → Int64} {rr : Bool}  (h : m_isType x1 S = some rr) : Met l y_m_isType (Cond.code y_m_isType prog_14_method_42_code 2 (Option.some Jvm.ClassFile.FieldType.boolean) :: TW) { frames := 0, cells := 0, slots := 0, locals := 0 } (va_Pc [.ref (b + 262), .int x1] (Rp D cA b ad (T, S, o))) (Qr D cA b ad (T, S, o) (some (.int (bI rr)))) 0 0 (Ab b) := by
  refine Ct_of (by decide) (Nat.le_of_ble_eq_true rfl) ?_
  intro p e R s m args below meth c ls Q H locs hR hQ hx hb hts hown hml hr hlk hC hX hS hl
  have hRf : R.frames = 0 := by rw [hR]
  have hRl : R.locals = 0 := by rw [hR]
  have hown : s.vm.findClass "TypeGuardModel" = some m.cls := hown
  have hl : lv_has ls 2 [(0, .ref (b + 262)), (1, .int x1)] := hl
  rw [m_isType] at h
  refine lv_iload_n hx hb d_m_isType_0 rfl (lv_at hl 1 rfl) ?_
  refine lv_if_lt hx hb d_m_isType_1 (tgt := 23) (by decide) (fun hc => ?_) (fun hc => ?_)
  · rw [if_pos hc] at h
    refine lv_iconst (v := 0) hx hb d_m_isType_23 (by decide) ?_
    obtain rfl := Option.some.inj h
    exact rt_zf hQ hx hb hr hX hS hlk d_m_isType_24
  · rw [if_neg hc] at h
    refine lv_iload_n hx hb d_m_isType_4 rfl (lv_at hl 1 rfl) ?_
    refine lv_aload_n hx hb d_m_isType_5 rfl (lv_at hl 0 rfl) ?_
    refine m_get_0_13 hx hb hts hown hC hX (by rfl) (hts _ t_1000) d_m_isType_6 ?_
    refine lv_iconst (v := 5) hx hb d_m_isType_9 (by decide) ?_
    refine lv_aload_n hx hb d_m_isType_10 rfl (lv_at hl 0 rfl) ?_
    refine m_get_0_12 hx hb hts hown hC hX (by rfl) (hts _ t_999) d_m_isType_11 ?_
    refine lv_imul hx hb d_m_isType_14 ?_
    by_cases hg15 : inbd (5 * (gI S 0 12)) 10 = true
    rotate_left; · rw [if_neg hg15] at h; cases h
    rw [if_pos hg15] at h
    refine m_ald_1 (k := 2) hx hb hC hX (by rfl) hg15 d_m_isType_15 ?_
    refine lv_icmp_ge hx hb d_m_isType_16 (tgt := 23) (by decide) (fun hc => ?_) (fun hc => ?_)
    · rw [if_pos hc] at h
      refine lv_iconst (v := 0) hx hb d_m_isType_23 (by decide) ?_
      obtain rfl := Option.some.inj h
      exact rt_zf hQ hx hb hr hX hS hlk d_m_isType_24
    · rw [if_neg hc] at h
      refine lv_iconst (v := 1) hx hb d_m_isType_19 (by decide) ?_
      refine lv_goto hx hb d_m_isType_20 (tgt := 24) (by decide) ?_
      obtain rfl := Option.some.inj h
      exact rt_zt hQ hx hb hr hX hS hlk d_m_isType_24
abbrev y_m_isClass : MethodName := ({ cls := "TypeGuardModel", name := "isClass", desc := "(I)Z" } : Jvm.MethodName)
theorem d_m_isClass_0 : decode prog_14_method_43_code 0 = .ok (.iload_n 1, 1) := by decide +kernel
theorem d_m_isClass_1 : decode prog_14_method_43_code 1 = .ok (.ifCond .lt 24, 3) := by decide +kernel
theorem d_m_isClass_4 : decode prog_14_method_43_code 4 = .ok (.iload_n 1, 1) := by decide +kernel
theorem d_m_isClass_5 : decode prog_14_method_43_code 5 = .ok (.aload_n 0, 1) := by decide +kernel
theorem d_m_isClass_6 : decode prog_14_method_43_code 6 = .ok (.getfield 17, 3) := by decide +kernel
theorem d_m_isClass_9 : decode prog_14_method_43_code 9 = .ok (.iconst 5, 1) := by decide +kernel
theorem d_m_isClass_10 : decode prog_14_method_43_code 10 = .ok (.aload_n 0, 1) := by decide +kernel
theorem d_m_isClass_11 : decode prog_14_method_43_code 11 = .ok (.getfield 154, 3) := by decide +kernel
theorem d_m_isClass_14 : decode prog_14_method_43_code 14 = .ok (.imul, 1) := by decide +kernel
theorem d_m_isClass_15 : decode prog_14_method_43_code 15 = .ok (.iconst 2, 1) := by decide +kernel
theorem d_m_isClass_16 : decode prog_14_method_43_code 16 = .ok (.iadd, 1) := by decide +kernel
theorem d_m_isClass_17 : decode prog_14_method_43_code 17 = .ok (.iaload, 1) := by decide +kernel
theorem d_m_isClass_18 : decode prog_14_method_43_code 18 = .ok (.if_icmp .ge 7, 3) := by decide +kernel
theorem d_m_isClass_21 : decode prog_14_method_43_code 21 = .ok (.iconst 1, 1) := by decide +kernel
theorem d_m_isClass_22 : decode prog_14_method_43_code 22 = .ok (.goto 4, 3) := by decide +kernel
theorem d_m_isClass_25 : decode prog_14_method_43_code 25 = .ok (.iconst 0, 1) := by decide +kernel
theorem d_m_isClass_26 : decode prog_14_method_43_code 26 = .ok (.ireturn, 1) := by decide +kernel
def m_isClass (x1 : Int32) (S : MS) : Option Bool := (if x1 < 0 then some false else (if inbd ((5 * (gI S 0 12)) + 2) 10 = true then (if (gI S 2 (txN ((5 * (gI S 0 12)) + 2))) ≤ x1 then some false else some true) else none))
set_option maxHeartbeats 4000000 in
set_option maxRecDepth 100000 in
theorem M_m_isClass {l : Launch} {D : va_G} {cA : Nat → ClassId} {b : Nat} {ad : Nat → Nat} {x1 : Int32} {S : MS} {T : CS} {o : Nat → Int64} {rr : Bool}  (h : m_isClass x1 S = some rr) : Met l y_m_isClass (Cond.code y_m_isClass prog_14_method_43_code 2 (Option.some Jvm.ClassFile.FieldType.boolean) :: TW) { frames := 0, cells := 0, slots := 0, locals := 0 } (va_Pc [.ref (b + 262), .int x1] (Rp D cA b ad (T, S, o))) (Qr D cA b ad (T, S, o) (some (.int (bI rr)))) 0 0 (Ab b) := by
  refine Ct_of (by decide) (Nat.le_of_ble_eq_true rfl) ?_
  intro p e R s m args below meth c ls Q H locs hR hQ hx hb hts hown hml hr hlk hC hX hS hl
  have hRf : R.frames = 0 := by rw [hR]
  have hRl : R.locals = 0 := by rw [hR]
  have hown : s.vm.findClass "TypeGuardModel" = some m.cls := hown
  have hl : lv_has ls 2 [(0, .ref (b + 262)), (1, .int x1)] := hl
  rw [m_isClass] at h
  refine lv_iload_n hx hb d_m_isClass_0 rfl (lv_at hl 1 rfl) ?_
  refine lv_if_lt hx hb d_m_isClass_1 (tgt := 25) (by decide) (fun hc => ?_) (fun hc => ?_)
  · rw [if_pos hc] at h
    refine lv_iconst (v := 0) hx hb d_m_isClass_25 (by decide) ?_
    obtain rfl := Option.some.inj h
    exact rt_zf hQ hx hb hr hX hS hlk d_m_isClass_26
  · rw [if_neg hc] at h
    refine lv_iload_n hx hb d_m_isClass_4 rfl (lv_at hl 1 rfl) ?_
    refine lv_aload_n hx hb d_m_isClass_5 rfl (lv_at hl 0 rfl) ?_
    refine m_get_0_13 hx hb hts hown hC hX (by rfl) (hts _ t_1000) d_m_isClass_6 ?_
    refine lv_iconst (v := 5) hx hb d_m_isClass_9 (by decide) ?_
    refine lv_aload_n hx hb d_m_isClass_10 rfl (lv_at hl 0 rfl) ?_
    refine m_get_0_12 hx hb hts hown hC hX (by rfl) (hts _ t_999) d_m_isClass_11 ?_
    refine lv_imul hx hb d_m_isClass_14 ?_
    refine lv_iconst (v := 2) hx hb d_m_isClass_15 (by decide) ?_
    refine lv_iadd hx hb d_m_isClass_16 ?_
    by_cases hg17 : inbd ((5 * (gI S 0 12)) + 2) 10 = true
    rotate_left; · rw [if_neg hg17] at h; cases h
    rw [if_pos hg17] at h
    refine m_ald_1 (k := 2) hx hb hC hX (by rfl) hg17 d_m_isClass_17 ?_
    refine lv_icmp_ge hx hb d_m_isClass_18 (tgt := 25) (by decide) (fun hc => ?_) (fun hc => ?_)
    · rw [if_pos hc] at h
      refine lv_iconst (v := 0) hx hb d_m_isClass_25 (by decide) ?_
      obtain rfl := Option.some.inj h
      exact rt_zf hQ hx hb hr hX hS hlk d_m_isClass_26
    · rw [if_neg hc] at h
      refine lv_iconst (v := 1) hx hb d_m_isClass_21 (by decide) ?_
      refine lv_goto hx hb d_m_isClass_22 (tgt := 26) (by decide) ?_
      obtain rfl := Option.some.inj h
      exact rt_zt hQ hx hb hr hX hS hlk d_m_isClass_26
abbrev y_m_isInForce : MethodName := ({ cls := "TypeGuardModel", name := "isInForce", desc := "(I)Z" } : Jvm.MethodName)
theorem d_m_isInForce_0 : decode prog_14_method_44_code 0 = .ok (.aload_n 0, 1) := by decide +kernel
theorem d_m_isInForce_1 : decode prog_14_method_44_code 1 = .ok (.getfield 52, 3) := by decide +kernel
theorem d_m_isInForce_4 : decode prog_14_method_44_code 4 = .ok (.iload_n 1, 1) := by decide +kernel
theorem d_m_isInForce_5 : decode prog_14_method_44_code 5 = .ok (.iaload, 1) := by decide +kernel
theorem d_m_isInForce_6 : decode prog_14_method_44_code 6 = .ok (.ifCond .lt 30, 3) := by decide +kernel
theorem d_m_isInForce_9 : decode prog_14_method_44_code 9 = .ok (.aload_n 0, 1) := by decide +kernel
theorem d_m_isInForce_10 : decode prog_14_method_44_code 10 = .ok (.getfield 42, 3) := by decide +kernel
theorem d_m_isInForce_13 : decode prog_14_method_44_code 13 = .ok (.iconst 3, 1) := by decide +kernel
theorem d_m_isInForce_14 : decode prog_14_method_44_code 14 = .ok (.aload_n 0, 1) := by decide +kernel
theorem d_m_isInForce_15 : decode prog_14_method_44_code 15 = .ok (.getfield 154, 3) := by decide +kernel
theorem d_m_isInForce_18 : decode prog_14_method_44_code 18 = .ok (.imul, 1) := by decide +kernel
theorem d_m_isInForce_19 : decode prog_14_method_44_code 19 = .ok (.aload_n 0, 1) := by decide +kernel
theorem d_m_isInForce_20 : decode prog_14_method_44_code 20 = .ok (.getfield 52, 3) := by decide +kernel
theorem d_m_isInForce_23 : decode prog_14_method_44_code 23 = .ok (.iload_n 1, 1) := by decide +kernel
theorem d_m_isInForce_24 : decode prog_14_method_44_code 24 = .ok (.iaload, 1) := by decide +kernel
theorem d_m_isInForce_25 : decode prog_14_method_44_code 25 = .ok (.iadd, 1) := by decide +kernel
theorem d_m_isInForce_26 : decode prog_14_method_44_code 26 = .ok (.baload, 1) := by decide +kernel
theorem d_m_isInForce_27 : decode prog_14_method_44_code 27 = .ok (.aload_n 0, 1) := by decide +kernel
theorem d_m_isInForce_28 : decode prog_14_method_44_code 28 = .ok (.getfield 67, 3) := by decide +kernel
theorem d_m_isInForce_31 : decode prog_14_method_44_code 31 = .ok (.iload_n 1, 1) := by decide +kernel
theorem d_m_isInForce_32 : decode prog_14_method_44_code 32 = .ok (.baload, 1) := by decide +kernel
theorem d_m_isInForce_33 : decode prog_14_method_44_code 33 = .ok (.if_icmp .ne 7, 3) := by decide +kernel
theorem d_m_isInForce_36 : decode prog_14_method_44_code 36 = .ok (.iconst 1, 1) := by decide +kernel
theorem d_m_isInForce_37 : decode prog_14_method_44_code 37 = .ok (.goto 4, 3) := by decide +kernel
theorem d_m_isInForce_40 : decode prog_14_method_44_code 40 = .ok (.iconst 0, 1) := by decide +kernel
theorem d_m_isInForce_41 : decode prog_14_method_44_code 41 = .ok (.ireturn, 1) := by decide +kernel
def m_isInForce (x1 : Int32) (S : MS) : Option Bool := (if inbd x1 48 = true then (if (gI S 13 (txN x1)) < 0 then some true else (if inbd x1 48 = true then (if inbd ((3 * (gI S 0 12)) + (gI S 13 (txN x1))) 6 = true then (if inbd x1 48 = true then (if (bI (gB S 10 (txN ((3 * (gI S 0 12)) + (gI S 13 (txN x1)))))) = (bI (gB S 18 (txN x1))) then some true else some false) else none) else none) else none)) else none)
set_option maxHeartbeats 4000000 in
set_option maxRecDepth 100000 in
theorem M_m_isInForce {l : Launch} {D : va_G} {cA : Nat → ClassId} {b : Nat} {ad : Nat → Nat} {x1 : Int32} {S : MS} {T : CS} {o : Nat → Int64} {rr : Bool}  (h : m_isInForce x1 S = some rr) : Met l y_m_isInForce (Cond.code y_m_isInForce prog_14_method_44_code 2 (Option.some Jvm.ClassFile.FieldType.boolean) :: TW) { frames := 0, cells := 0, slots := 0, locals := 0 } (va_Pc [.ref (b + 262), .int x1] (Rp D cA b ad (T, S, o))) (Qr D cA b ad (T, S, o) (some (.int (bI rr)))) 0 0 (Ab b) := by
  refine Ct_of (by decide) (Nat.le_of_ble_eq_true rfl) ?_
  intro p e R s m args below meth c ls Q H locs hR hQ hx hb hts hown hml hr hlk hC hX hS hl
  have hRf : R.frames = 0 := by rw [hR]
  have hRl : R.locals = 0 := by rw [hR]
  have hown : s.vm.findClass "TypeGuardModel" = some m.cls := hown
  have hl : lv_has ls 2 [(0, .ref (b + 262)), (1, .int x1)] := hl
  rw [m_isInForce] at h
  refine lv_aload_n hx hb d_m_isInForce_0 rfl (lv_at hl 0 rfl) ?_
  refine m_get_0_24 hx hb hts hown hC hX (by rfl) (hts _ t_1011) d_m_isInForce_1 ?_
  refine lv_iload_n hx hb d_m_isInForce_4 rfl (lv_at hl 1 rfl) ?_
  by_cases hg5 : inbd x1 48 = true
  rotate_left; · rw [if_neg hg5] at h; cases h
  rw [if_pos hg5] at h
  refine m_ald_1 (k := 13) hx hb hC hX (by rfl) hg5 d_m_isInForce_5 ?_
  refine lv_if_lt hx hb d_m_isInForce_6 (tgt := 36) (by decide) (fun hc => ?_) (fun hc => ?_)
  · rw [if_pos hc] at h
    refine lv_iconst (v := 1) hx hb d_m_isInForce_36 (by decide) ?_
    refine lv_goto hx hb d_m_isInForce_37 (tgt := 41) (by decide) ?_
    obtain rfl := Option.some.inj h
    exact rt_zt hQ hx hb hr hX hS hlk d_m_isInForce_41
  · rw [if_neg hc] at h
    refine lv_aload_n hx hb d_m_isInForce_9 rfl (lv_at hl 0 rfl) ?_
    refine m_get_0_21 hx hb hts hown hC hX (by rfl) (hts _ t_1008) d_m_isInForce_10 ?_
    refine lv_iconst (v := 3) hx hb d_m_isInForce_13 (by decide) ?_
    refine lv_aload_n hx hb d_m_isInForce_14 rfl (lv_at hl 0 rfl) ?_
    refine m_get_0_12 hx hb hts hown hC hX (by rfl) (hts _ t_999) d_m_isInForce_15 ?_
    refine lv_imul hx hb d_m_isInForce_18 ?_
    refine lv_aload_n hx hb d_m_isInForce_19 rfl (lv_at hl 0 rfl) ?_
    refine m_get_0_24 hx hb hts hown hC hX (by rfl) (hts _ t_1011) d_m_isInForce_20 ?_
    refine lv_iload_n hx hb d_m_isInForce_23 rfl (lv_at hl 1 rfl) ?_
    by_cases hg24 : inbd x1 48 = true
    rotate_left; · rw [if_neg hg24] at h; cases h
    rw [if_pos hg24] at h
    refine m_ald_1 (k := 13) hx hb hC hX (by rfl) hg24 d_m_isInForce_24 ?_
    refine lv_iadd hx hb d_m_isInForce_25 ?_
    by_cases hg26 : inbd ((3 * (gI S 0 12)) + (gI S 13 (txN x1))) 6 = true
    rotate_left; · rw [if_neg hg26] at h; cases h
    rw [if_pos hg26] at h
    refine m_ald_3 (k := 10) hx hb hC hX (by rfl) hg26 d_m_isInForce_26 ?_
    refine lv_aload_n hx hb d_m_isInForce_27 rfl (lv_at hl 0 rfl) ?_
    refine m_get_0_29 hx hb hts hown hC hX (by rfl) (hts _ t_1016) d_m_isInForce_28 ?_
    refine lv_iload_n hx hb d_m_isInForce_31 rfl (lv_at hl 1 rfl) ?_
    by_cases hg32 : inbd x1 48 = true
    rotate_left; · rw [if_neg hg32] at h; cases h
    rw [if_pos hg32] at h
    refine m_ald_3 (k := 18) hx hb hC hX (by rfl) hg32 d_m_isInForce_32 ?_
    refine lv_icmp_ne hx hb d_m_isInForce_33 (tgt := 40) (by decide) (fun hc => ?_) (fun hc => ?_)
    · rw [if_neg hc] at h
      refine lv_iconst (v := 0) hx hb d_m_isInForce_40 (by decide) ?_
      obtain rfl := Option.some.inj h
      exact rt_zf hQ hx hb hr hX hS hlk d_m_isInForce_41
    · rw [if_pos hc] at h
      refine lv_iconst (v := 1) hx hb d_m_isInForce_36 (by decide) ?_
      refine lv_goto hx hb d_m_isInForce_37 (tgt := 41) (by decide) ?_
      obtain rfl := Option.some.inj h
      exact rt_zt hQ hx hb hr hX hS hlk d_m_isInForce_41
abbrev y_m_worked : MethodName := ({ cls := "TypeGuardModel", name := "worked", desc := "(IIII)I" } : Jvm.MethodName)
theorem d_m_worked_0 : decode prog_14_method_45_code 0 = .ok (.iconst 0, 1) := by decide +kernel
theorem d_m_worked_1 : decode prog_14_method_45_code 1 = .ok (.istore 5, 2) := by decide +kernel
theorem d_m_worked_3 : decode prog_14_method_45_code 3 = .ok (.bipush 24, 2) := by decide +kernel
theorem d_m_worked_5 : decode prog_14_method_45_code 5 = .ok (.aload_n 0, 1) := by decide +kernel
theorem d_m_worked_6 : decode prog_14_method_45_code 6 = .ok (.getfield 154, 3) := by decide +kernel
theorem d_m_worked_9 : decode prog_14_method_45_code 9 = .ok (.imul, 1) := by decide +kernel
theorem d_m_worked_10 : decode prog_14_method_45_code 10 = .ok (.istore 6, 2) := by decide +kernel
theorem d_m_worked_12 : decode prog_14_method_45_code 12 = .ok (.iload 6, 2) := by decide +kernel
theorem d_m_worked_14 : decode prog_14_method_45_code 14 = .ok (.bipush 24, 2) := by decide +kernel
theorem d_m_worked_16 : decode prog_14_method_45_code 16 = .ok (.aload_n 0, 1) := by decide +kernel
theorem d_m_worked_17 : decode prog_14_method_45_code 17 = .ok (.getfield 154, 3) := by decide +kernel
theorem d_m_worked_20 : decode prog_14_method_45_code 20 = .ok (.imul, 1) := by decide +kernel
theorem d_m_worked_21 : decode prog_14_method_45_code 21 = .ok (.aload_n 0, 1) := by decide +kernel
theorem d_m_worked_22 : decode prog_14_method_45_code 22 = .ok (.getfield 17, 3) := by decide +kernel
theorem d_m_worked_25 : decode prog_14_method_45_code 25 = .ok (.iconst 5, 1) := by decide +kernel
theorem d_m_worked_26 : decode prog_14_method_45_code 26 = .ok (.aload_n 0, 1) := by decide +kernel
theorem d_m_worked_27 : decode prog_14_method_45_code 27 = .ok (.getfield 154, 3) := by decide +kernel
theorem d_m_worked_30 : decode prog_14_method_45_code 30 = .ok (.imul, 1) := by decide +kernel
theorem d_m_worked_31 : decode prog_14_method_45_code 31 = .ok (.iconst 4, 1) := by decide +kernel
theorem d_m_worked_32 : decode prog_14_method_45_code 32 = .ok (.iadd, 1) := by decide +kernel
theorem d_m_worked_33 : decode prog_14_method_45_code 33 = .ok (.iaload, 1) := by decide +kernel
theorem d_m_worked_34 : decode prog_14_method_45_code 34 = .ok (.iadd, 1) := by decide +kernel
theorem d_m_worked_35 : decode prog_14_method_45_code 35 = .ok (.if_icmp .ge 61, 3) := by decide +kernel
theorem d_m_worked_38 : decode prog_14_method_45_code 38 = .ok (.aload_n 0, 1) := by decide +kernel
theorem d_m_worked_39 : decode prog_14_method_45_code 39 = .ok (.getfield 46, 3) := by decide +kernel
theorem d_m_worked_42 : decode prog_14_method_45_code 42 = .ok (.iload 6, 2) := by decide +kernel
theorem d_m_worked_44 : decode prog_14_method_45_code 44 = .ok (.iaload, 1) := by decide +kernel
theorem d_m_worked_45 : decode prog_14_method_45_code 45 = .ok (.iload_n 1, 1) := by decide +kernel
theorem d_m_worked_46 : decode prog_14_method_45_code 46 = .ok (.if_icmp .ne 44, 3) := by decide +kernel
theorem d_m_worked_49 : decode prog_14_method_45_code 49 = .ok (.aload_n 0, 1) := by decide +kernel
theorem d_m_worked_50 : decode prog_14_method_45_code 50 = .ok (.iload 6, 2) := by decide +kernel
theorem d_m_worked_52 : decode prog_14_method_45_code 52 = .ok (.invokevirtual 290, 3) := by decide +kernel
theorem d_m_worked_55 : decode prog_14_method_45_code 55 = .ok (.ifCond .eq 35, 3) := by decide +kernel
theorem d_m_worked_58 : decode prog_14_method_45_code 58 = .ok (.aload_n 0, 1) := by decide +kernel
theorem d_m_worked_59 : decode prog_14_method_45_code 59 = .ok (.iload 6, 2) := by decide +kernel
theorem d_m_worked_61 : decode prog_14_method_45_code 61 = .ok (.iload_n 2, 1) := by decide +kernel
theorem d_m_worked_62 : decode prog_14_method_45_code 62 = .ok (.invokevirtual 263, 3) := by decide +kernel
theorem d_m_worked_65 : decode prog_14_method_45_code 65 = .ok (.iload_n 3, 1) := by decide +kernel
theorem d_m_worked_66 : decode prog_14_method_45_code 66 = .ok (.ishr, 1) := by decide +kernel
theorem d_m_worked_67 : decode prog_14_method_45_code 67 = .ok (.iconst 1, 1) := by decide +kernel
theorem d_m_worked_68 : decode prog_14_method_45_code 68 = .ok (.iand, 1) := by decide +kernel
theorem d_m_worked_69 : decode prog_14_method_45_code 69 = .ok (.iconst 1, 1) := by decide +kernel
theorem d_m_worked_70 : decode prog_14_method_45_code 70 = .ok (.if_icmp .ne 20, 3) := by decide +kernel
theorem d_m_worked_73 : decode prog_14_method_45_code 73 = .ok (.iload 5, 2) := by decide +kernel
theorem d_m_worked_75 : decode prog_14_method_45_code 75 = .ok (.aload_n 0, 1) := by decide +kernel
theorem d_m_worked_76 : decode prog_14_method_45_code 76 = .ok (.getfield 73, 3) := by decide +kernel
theorem d_m_worked_79 : decode prog_14_method_45_code 79 = .ok (.iconst 4, 1) := by decide +kernel
theorem d_m_worked_80 : decode prog_14_method_45_code 80 = .ok (.iload 6, 2) := by decide +kernel
theorem d_m_worked_82 : decode prog_14_method_45_code 82 = .ok (.imul, 1) := by decide +kernel
theorem d_m_worked_83 : decode prog_14_method_45_code 83 = .ok (.iload 4, 2) := by decide +kernel
theorem d_m_worked_85 : decode prog_14_method_45_code 85 = .ok (.iadd, 1) := by decide +kernel
theorem d_m_worked_86 : decode prog_14_method_45_code 86 = .ok (.iaload, 1) := by decide +kernel
theorem d_m_worked_87 : decode prog_14_method_45_code 87 = .ok (.ior, 1) := by decide +kernel
theorem d_m_worked_88 : decode prog_14_method_45_code 88 = .ok (.istore 5, 2) := by decide +kernel
theorem d_m_worked_90 : decode prog_14_method_45_code 90 = .ok (.iinc 6 1, 3) := by decide +kernel
theorem d_m_worked_93 : decode prog_14_method_45_code 93 = .ok (.goto (-81), 3) := by decide +kernel
theorem d_m_worked_96 : decode prog_14_method_45_code 96 = .ok (.iload 5, 2) := by decide +kernel
theorem d_m_worked_98 : decode prog_14_method_45_code 98 = .ok (.ireturn, 1) := by decide +kernel
def m_worked_L12 (v1_12 : Int32) (v2_12 : Int32) (v3_12 : Int32) (v4_12 : Int32) (S_12 : MS) : Nat → Int32 → Int32 → Option Int32
  | 0, _, _ => none
  | n + 1, v5_12, v6_12 => (if inbd ((5 * (gI S_12 0 12)) + 4) 10 = true then (if ((24 * (gI S_12 0 12)) + (gI S_12 2 (txN ((5 * (gI S_12 0 12)) + 4)))) ≤ v6_12 then some v5_12 else (if inbd v6_12 48 = true then (if (gI S_12 11 (txN v6_12)) = v1_12 then ((m_isInForce v6_12 S_12).bind fun q52 => (if q52 = true then ((m_targetsOf v6_12 v2_12 S_12).bind fun q62 => (if ((q62 >>> (v3_12 &&& 31)) &&& 1) = 1 then (if inbd ((4 * v6_12) + v4_12) 192 = true then (bd ((v5_12 ||| (gI S_12 20 (txN ((4 * v6_12) + v4_12))))) fun a88 => (bd ((v6_12 + 1)) fun a90 => (m_worked_L12 v1_12 v2_12 v3_12 v4_12 S_12 n) a88 a90)) else none) else (bd ((v6_12 + 1)) fun a90 => (m_worked_L12 v1_12 v2_12 v3_12 v4_12 S_12 n) v5_12 a90))) else (bd ((v6_12 + 1)) fun a90 => (m_worked_L12 v1_12 v2_12 v3_12 v4_12 S_12 n) v5_12 a90))) else (bd ((v6_12 + 1)) fun a90 => (m_worked_L12 v1_12 v2_12 v3_12 v4_12 S_12 n) v5_12 a90)) else none)) else none)
def m_worked (x1 : Int32) (x2 : Int32) (x3 : Int32) (x4 : Int32) (S : MS) : Option Int32 := (bd ((24 * (gI S 0 12))) fun a10 => m_worked_L12 x1 x2 x3 x4 S 600 0 a10)
set_option maxHeartbeats 4000000 in
set_option maxRecDepth 100000 in
theorem M_m_worked {l : Launch} {D : va_G} {cA : Nat → ClassId} {b : Nat} {ad : Nat → Nat} {x1 : Int32} {x2 : Int32} {x3 : Int32} {x4 : Int32} {S : MS} {T : CS} {o : Nat → Int64} {rr : Int32}  (h : m_worked x1 x2 x3 x4 S = some rr) : Met l y_m_worked (Cond.code y_m_worked prog_14_method_45_code 7 (Option.some Jvm.ClassFile.FieldType.int) :: TW) { frames := 1, cells := 0, slots := 0, locals := 22 } (va_Pc [.ref (b + 262), .int x1, .int x2, .int x3, .int x4] (Rp D cA b ad (T, S, o))) (Qr D cA b ad (T, S, o) (some (.int rr))) 0 0 (Ab b) := by
  refine Ct_of (by decide) (Nat.le_of_ble_eq_true rfl) ?_
  intro p e R s m args below meth c ls Q H locs hR hQ hx hb hts hown hml hr hlk hC hX hS hl
  have hRf : R.frames = 1 := by rw [hR]
  have hRl : R.locals = 22 := by rw [hR]
  have hown : s.vm.findClass "TypeGuardModel" = some m.cls := hown
  have hl : lv_has ls 7 [(0, .ref (b + 262)), (1, .int x1), (2, .int x2), (3, .int x3), (4, .int x4)] := hl
  rw [m_worked] at h
  refine lv_iconst (v := 0) hx hb d_m_worked_0 (by decide) ?_
  refine lv_istore (lv' := [(5, .int 0), (0, .ref (b + 262)), (1, .int x1), (2, .int x2), (3, .int x3), (4, .int x4)]) hx hb d_m_worked_1 hl (by decide) rfl (fun ls hl => ?_)
  refine lv_bipush (v := 24) hx hb d_m_worked_3 (by decide) ?_
  refine lv_aload_n hx hb d_m_worked_5 rfl (lv_at hl 1 rfl) ?_
  refine m_get_0_12 hx hb hts hown hC hX (by rfl) (hts _ t_999) d_m_worked_6 ?_
  refine lv_imul hx hb d_m_worked_9 ?_
  obtain ⟨a10, e10, h⟩ := bd_some h
  refine lt_I e10 ?_
  refine lv_istore (lv' := [(6, .int a10), (5, .int 0), (0, .ref (b + 262)), (1, .int x1), (2, .int x2), (3, .int x3), (4, .int x4)]) hx hb d_m_worked_10 hl (by decide) rfl (fun ls hl => ?_)
  have L12 : ∀ (n12 : Nat) (v5_12 : Int32) (v6_12 : Int32) (H : Heap) (locs : List Loc) (ls : Array Slot), hp D cA b ad (T, S, o) H → va_S (Ab b) s.heap H locs → lv_has ls 7 [(0, .ref (b + 262)), (1, .int x1), (2, .int x2), (3, .int x3), (4, .int x4), (5, .int v5_12), (6, .int v6_12)] → m_worked_L12 x1 x2 x3 x4 S n12 v5_12 v6_12 = some rr → W p l e R s m args below meth c H locs 0 0 Q (F0 m 12 ls []) := by
    intro n12; induction n12 with
    | zero => intro v5_12 v6_12 H locs ls  hX hS hl h; rw [m_worked_L12] at h; cases h
    | succ n12 ih12 =>
      intro v5_12 v6_12 H locs ls  hX hS hl h
      rw [m_worked_L12] at h
      refine lv_iload hx hb d_m_worked_12 (lv_at hl 6 rfl) ?_
      refine lv_bipush (v := 24) hx hb d_m_worked_14 (by decide) ?_
      refine lv_aload_n hx hb d_m_worked_16 rfl (lv_at hl 0 rfl) ?_
      refine m_get_0_12 hx hb hts hown hC hX (by rfl) (hts _ t_999) d_m_worked_17 ?_
      refine lv_imul hx hb d_m_worked_20 ?_
      refine lv_aload_n hx hb d_m_worked_21 rfl (lv_at hl 0 rfl) ?_
      refine m_get_0_13 hx hb hts hown hC hX (by rfl) (hts _ t_1000) d_m_worked_22 ?_
      refine lv_iconst (v := 5) hx hb d_m_worked_25 (by decide) ?_
      refine lv_aload_n hx hb d_m_worked_26 rfl (lv_at hl 0 rfl) ?_
      refine m_get_0_12 hx hb hts hown hC hX (by rfl) (hts _ t_999) d_m_worked_27 ?_
      refine lv_imul hx hb d_m_worked_30 ?_
      refine lv_iconst (v := 4) hx hb d_m_worked_31 (by decide) ?_
      refine lv_iadd hx hb d_m_worked_32 ?_
      by_cases hg33 : inbd ((5 * (gI S 0 12)) + 4) 10 = true
      rotate_left; · rw [if_neg hg33] at h; cases h
      rw [if_pos hg33] at h
      refine m_ald_1 (k := 2) hx hb hC hX (by rfl) hg33 d_m_worked_33 ?_
      refine lv_iadd hx hb d_m_worked_34 ?_
      refine lv_icmp_ge hx hb d_m_worked_35 (tgt := 96) (by decide) (fun hc => ?_) (fun hc => ?_)
      · rw [if_pos hc] at h
        refine lv_iload hx hb d_m_worked_96 (lv_at hl 5 rfl) ?_
        obtain rfl := Option.some.inj h
        exact rt_i hQ hx hb hr hX hS hlk d_m_worked_98
      · rw [if_neg hc] at h
        refine lv_aload_n hx hb d_m_worked_38 rfl (lv_at hl 0 rfl) ?_
        refine m_get_0_22 hx hb hts hown hC hX (by rfl) (hts _ t_1009) d_m_worked_39 ?_
        refine lv_iload hx hb d_m_worked_42 (lv_at hl 6 rfl) ?_
        by_cases hg44 : inbd v6_12 48 = true
        rotate_left; · rw [if_neg hg44] at h; cases h
        rw [if_pos hg44] at h
        refine m_ald_1 (k := 11) hx hb hC hX (by rfl) hg44 d_m_worked_44 ?_
        refine lv_iload_n hx hb d_m_worked_45 rfl (lv_at hl 1 rfl) ?_
        refine lv_icmp_ne hx hb d_m_worked_46 (tgt := 90) (by decide) (fun hc => ?_) (fun hc => ?_)
        · rw [if_neg hc] at h
          obtain ⟨a90, e90, h⟩ := bd_some h
          refine lv_iinc (v := a90) (lv' := [(6, .int a90), (0, .ref (b + 262)), (1, .int x1), (2, .int x2), (3, .int x3), (4, .int x4), (5, .int v5_12)]) hx hb d_m_worked_90 hl (k := 6) rfl e90.symm (by decide) rfl (fun ls hl => ?_)
          refine lv_goto hx hb d_m_worked_93 (tgt := 12) (by decide) ?_
          exact ih12 v5_12 a90 H locs ls  hX hS (lv_sub hl [1, 2, 3, 4, 5, 6, 0] rfl) h
        · rw [if_pos hc] at h
          refine lv_aload_n hx hb d_m_worked_49 rfl (lv_at hl 0 rfl) ?_
          refine lv_iload hx hb d_m_worked_50 (lv_at hl 6 rfl) ?_
          obtain ⟨q52, hc52, h⟩ := Option.bind_eq_some_iff.mp h
          refine ck_V (As := [.int v6_12]) (rest := []) (st1 := [.int (bI q52)]) (M_m_isInForce  hc52) t_1320 t_1322 p_70 t_1323 t_13 hx hb hts hown hC hX hS (hrc_m0 hC hX (by rfl)) hml hl.1 ⟨by rw [hRf]; decide, by rw [hRl]; decide⟩ ⟨rfl, rfl⟩ (n := 1) (by decide +kernel) rfl rfl rfl (lv_room (Nat.le_of_ble_eq_true rfl)) d_m_worked_52 (fun H locs hX hS => ?_)
          refine lz_ifeq hx hb d_m_worked_55 (tgt := 90) (by decide) (fun hc => ?_) (fun hc => ?_)
          · rw [if_neg hc] at h
            obtain ⟨a90, e90, h⟩ := bd_some h
            refine lv_iinc (v := a90) (lv' := [(6, .int a90), (0, .ref (b + 262)), (1, .int x1), (2, .int x2), (3, .int x3), (4, .int x4), (5, .int v5_12)]) hx hb d_m_worked_90 hl (k := 6) rfl e90.symm (by decide) rfl (fun ls hl => ?_)
            refine lv_goto hx hb d_m_worked_93 (tgt := 12) (by decide) ?_
            exact ih12 v5_12 a90 H locs ls  hX hS (lv_sub hl [1, 2, 3, 4, 5, 6, 0] rfl) h
          · rw [if_pos hc] at h
            refine lv_aload_n hx hb d_m_worked_58 rfl (lv_at hl 0 rfl) ?_
            refine lv_iload hx hb d_m_worked_59 (lv_at hl 6 rfl) ?_
            refine lv_iload_n hx hb d_m_worked_61 rfl (lv_at hl 2 rfl) ?_
            obtain ⟨q62, hc62, h⟩ := Option.bind_eq_some_iff.mp h
            refine ck_V (As := [.int v6_12, .int x2]) (rest := []) (st1 := [.int q62]) (M_m_targetsOf  hc62) t_1284 t_1286 p_65 t_1287 t_13 hx hb hts hown hC hX hS (hrc_m0 hC hX (by rfl)) hml hl.1 ⟨by rw [hRf]; decide, by rw [hRl]; decide⟩ ⟨rfl, rfl⟩ (n := 2) (by decide +kernel) rfl rfl rfl (lv_room (Nat.le_of_ble_eq_true rfl)) d_m_worked_62 (fun H locs hX hS => ?_)
            refine lv_iload_n hx hb d_m_worked_65 rfl (lv_at hl 3 rfl) ?_
            refine lv_ishr hx hb d_m_worked_66 ?_
            refine lv_iconst (v := 1) hx hb d_m_worked_67 (by decide) ?_
            refine lv_iand hx hb d_m_worked_68 ?_
            refine lv_iconst (v := 1) hx hb d_m_worked_69 (by decide) ?_
            refine lv_icmp_ne hx hb d_m_worked_70 (tgt := 90) (by decide) (fun hc => ?_) (fun hc => ?_)
            · rw [if_neg hc] at h
              obtain ⟨a90, e90, h⟩ := bd_some h
              refine lv_iinc (v := a90) (lv' := [(6, .int a90), (0, .ref (b + 262)), (1, .int x1), (2, .int x2), (3, .int x3), (4, .int x4), (5, .int v5_12)]) hx hb d_m_worked_90 hl (k := 6) rfl e90.symm (by decide) rfl (fun ls hl => ?_)
              refine lv_goto hx hb d_m_worked_93 (tgt := 12) (by decide) ?_
              exact ih12 v5_12 a90 H locs ls  hX hS (lv_sub hl [1, 2, 3, 4, 5, 6, 0] rfl) h
            · rw [if_pos hc] at h
              refine lv_iload hx hb d_m_worked_73 (lv_at hl 5 rfl) ?_
              refine lv_aload_n hx hb d_m_worked_75 rfl (lv_at hl 0 rfl) ?_
              refine m_get_0_31 hx hb hts hown hC hX (by rfl) (hts _ t_1018) d_m_worked_76 ?_
              refine lv_iconst (v := 4) hx hb d_m_worked_79 (by decide) ?_
              refine lv_iload hx hb d_m_worked_80 (lv_at hl 6 rfl) ?_
              refine lv_imul hx hb d_m_worked_82 ?_
              refine lv_iload hx hb d_m_worked_83 (lv_at hl 4 rfl) ?_
              refine lv_iadd hx hb d_m_worked_85 ?_
              by_cases hg86 : inbd ((4 * v6_12) + x4) 192 = true
              rotate_left; · rw [if_neg hg86] at h; cases h
              rw [if_pos hg86] at h
              refine m_ald_1 (k := 20) hx hb hC hX (by rfl) hg86 d_m_worked_86 ?_
              refine lv_ior hx hb d_m_worked_87 ?_
              obtain ⟨a88, e88, h⟩ := bd_some h
              refine lt_I e88 ?_
              refine lv_istore (lv' := [(5, .int a88), (0, .ref (b + 262)), (1, .int x1), (2, .int x2), (3, .int x3), (4, .int x4), (6, .int v6_12)]) hx hb d_m_worked_88 hl (by decide) rfl (fun ls hl => ?_)
              obtain ⟨a90, e90, h⟩ := bd_some h
              refine lv_iinc (v := a90) (lv' := [(6, .int a90), (5, .int a88), (0, .ref (b + 262)), (1, .int x1), (2, .int x2), (3, .int x3), (4, .int x4)]) hx hb d_m_worked_90 hl (k := 6) rfl e90.symm (by decide) rfl (fun ls hl => ?_)
              refine lv_goto hx hb d_m_worked_93 (tgt := 12) (by decide) ?_
              exact ih12 a88 a90 H locs ls  hX hS (lv_sub hl [2, 3, 4, 5, 6, 1, 0] rfl) h
  exact L12 600 0 a10 H locs ls  hX hS (lv_sub hl [2, 3, 4, 5, 6, 1, 0] rfl) h
abbrev y_m_vector : MethodName := ({ cls := "TypeGuardModel", name := "vector", desc := "(IIII)I" } : Jvm.MethodName)
theorem d_m_vector_0 : decode prog_14_method_46_code 0 = .ok (.iload_n 1, 1) := by decide +kernel
theorem d_m_vector_1 : decode prog_14_method_46_code 1 = .ok (.ifCond .lt 33, 3) := by decide +kernel
theorem d_m_vector_4 : decode prog_14_method_46_code 4 = .ok (.iload_n 1, 1) := by decide +kernel
theorem d_m_vector_5 : decode prog_14_method_46_code 5 = .ok (.iconst 2, 1) := by decide +kernel
theorem d_m_vector_6 : decode prog_14_method_46_code 6 = .ok (.if_icmp .gt 28, 3) := by decide +kernel
theorem d_m_vector_9 : decode prog_14_method_46_code 9 = .ok (.aload_n 0, 1) := by decide +kernel
theorem d_m_vector_10 : decode prog_14_method_46_code 10 = .ok (.iload_n 2, 1) := by decide +kernel
theorem d_m_vector_11 : decode prog_14_method_46_code 11 = .ok (.invokevirtual 293, 3) := by decide +kernel
theorem d_m_vector_14 : decode prog_14_method_46_code 14 = .ok (.ifCond .eq 20, 3) := by decide +kernel
theorem d_m_vector_17 : decode prog_14_method_46_code 17 = .ok (.aload_n 0, 1) := by decide +kernel
theorem d_m_vector_18 : decode prog_14_method_46_code 18 = .ok (.iload_n 3, 1) := by decide +kernel
theorem d_m_vector_19 : decode prog_14_method_46_code 19 = .ok (.invokevirtual 293, 3) := by decide +kernel
theorem d_m_vector_22 : decode prog_14_method_46_code 22 = .ok (.ifCond .eq 12, 3) := by decide +kernel
theorem d_m_vector_25 : decode prog_14_method_46_code 25 = .ok (.aload_n 0, 1) := by decide +kernel
theorem d_m_vector_26 : decode prog_14_method_46_code 26 = .ok (.iload 4, 2) := by decide +kernel
theorem d_m_vector_28 : decode prog_14_method_46_code 28 = .ok (.invokevirtual 296, 3) := by decide +kernel
theorem d_m_vector_31 : decode prog_14_method_46_code 31 = .ok (.ifCond .ne 10, 3) := by decide +kernel
theorem d_m_vector_34 : decode prog_14_method_46_code 34 = .ok (.aload_n 0, 1) := by decide +kernel
theorem d_m_vector_35 : decode prog_14_method_46_code 35 = .ok (.iconst 1, 1) := by decide +kernel
theorem d_m_vector_36 : decode prog_14_method_46_code 36 = .ok (.iconst 0, 1) := by decide +kernel
theorem d_m_vector_37 : decode prog_14_method_46_code 37 = .ok (.invokevirtual 284, 3) := by decide +kernel
theorem d_m_vector_40 : decode prog_14_method_46_code 40 = .ok (.ireturn, 1) := by decide +kernel
theorem d_m_vector_41 : decode prog_14_method_46_code 41 = .ok (.aload_n 0, 1) := by decide +kernel
theorem d_m_vector_42 : decode prog_14_method_46_code 42 = .ok (.iconst 0, 1) := by decide +kernel
theorem d_m_vector_43 : decode prog_14_method_46_code 43 = .ok (.aload_n 0, 1) := by decide +kernel
theorem d_m_vector_44 : decode prog_14_method_46_code 44 = .ok (.iload_n 1, 1) := by decide +kernel
theorem d_m_vector_45 : decode prog_14_method_46_code 45 = .ok (.iload_n 2, 1) := by decide +kernel
theorem d_m_vector_46 : decode prog_14_method_46_code 46 = .ok (.iload_n 3, 1) := by decide +kernel
theorem d_m_vector_47 : decode prog_14_method_46_code 47 = .ok (.iload 4, 2) := by decide +kernel
theorem d_m_vector_49 : decode prog_14_method_46_code 49 = .ok (.invokevirtual 299, 3) := by decide +kernel
theorem d_m_vector_52 : decode prog_14_method_46_code 52 = .ok (.invokevirtual 284, 3) := by decide +kernel
theorem d_m_vector_55 : decode prog_14_method_46_code 55 = .ok (.ireturn, 1) := by decide +kernel
def m_vector_J34 (S_34 : MS) : Option (MS × Int32) := ((m_give 1 0 S_34).bind fun q37 => some (q37.1, q37.2))
def m_vector (x1 : Int32) (x2 : Int32) (x3 : Int32) (x4 : Int32) (S : MS) : Option (MS × Int32) := (if x1 < 0 then m_vector_J34 S else (if 2 < x1 then m_vector_J34 S else ((m_isType x2 S).bind fun q11 => (if q11 = true then ((m_isType x3 S).bind fun q19 => (if q19 = true then ((m_isClass x4 S).bind fun q28 => (if q28 = true then ((m_worked x1 x2 x3 x4 S).bind fun q49 => ((m_give 0 q49 S).bind fun q52 => some (q52.1, q52.2))) else m_vector_J34 S)) else m_vector_J34 S)) else m_vector_J34 S))))
set_option maxHeartbeats 4000000 in
set_option maxRecDepth 100000 in
theorem M_m_vector {l : Launch} {D : va_G} {cA : Nat → ClassId} {b : Nat} {ad : Nat → Nat} {x1 : Int32} {x2 : Int32} {x3 : Int32} {x4 : Int32} {S : MS} {T : CS} {o : Nat → Int64} {rr : (MS × Int32)}  (h : m_vector x1 x2 x3 x4 S = some rr) : Met l y_m_vector (Cond.code y_m_vector prog_14_method_46_code 5 (Option.some Jvm.ClassFile.FieldType.int) :: TW) { frames := 2, cells := 0, slots := 0, locals := 48 } (va_Pc [.ref (b + 262), .int x1, .int x2, .int x3, .int x4] (Rp D cA b ad (T, S, o))) (Qr D cA b ad (T, rr.1, o) (some (.int rr.2))) 0 0 (Ab b) := by
  refine Ct_of (by decide) (Nat.le_of_ble_eq_true rfl) ?_
  intro p e R s m args below meth c ls Q H locs hR hQ hx hb hts hown hml hr hlk hC hX hS hl
  have hRf : R.frames = 2 := by rw [hR]
  have hRl : R.locals = 48 := by rw [hR]
  have hown : s.vm.findClass "TypeGuardModel" = some m.cls := hown
  have hl : lv_has ls 5 [(0, .ref (b + 262)), (1, .int x1), (2, .int x2), (3, .int x3), (4, .int x4)] := hl
  rw [m_vector] at h
  refine lv_iload_n hx hb d_m_vector_0 rfl (lv_at hl 1 rfl) ?_
  have J34 : ∀  (H : Heap) (locs : List Loc) (ls : Array Slot), hp D cA b ad (T, S, o) H → va_S (Ab b) s.heap H locs → lv_has ls 5 [(0, .ref (b + 262))] → m_vector_J34 S = some rr → W p l e R s m args below meth c H locs 0 0 Q (F0 m 34 ls []) := by
    intro  H locs ls  hX hS hl h
    rw [m_vector_J34] at h
    refine lv_aload_n hx hb d_m_vector_34 rfl (lv_at hl 0 rfl) ?_
    refine lv_iconst (v := 1) hx hb d_m_vector_35 (by decide) ?_
    refine lv_iconst (v := 0) hx hb d_m_vector_36 (by decide) ?_
    obtain ⟨q37, hc37, h⟩ := Option.bind_eq_some_iff.mp h
    refine ck_V (As := [.int 1, .int 0]) (rest := []) (st1 := [.int q37.2]) (M_m_give  hc37) t_1288 t_1290 p_66 t_1291 t_13 hx hb hts hown hC hX hS (hrc_m0 hC hX (by rfl)) hml hl.1 ⟨by rw [hRf]; decide, by rw [hRl]; decide⟩ ⟨rfl, rfl⟩ (n := 2) (by decide +kernel) rfl rfl rfl (lv_room (Nat.le_of_ble_eq_true rfl)) d_m_vector_37 (fun H locs hX hS => ?_)
    obtain rfl := Option.some.inj h
    exact rt_i hQ hx hb hr hX hS hlk d_m_vector_40
  refine lv_if_lt hx hb d_m_vector_1 (tgt := 34) (by decide) (fun hc => ?_) (fun hc => ?_)
  · rw [if_pos hc] at h
    exact J34  H locs ls  hX hS (lv_sub hl [0] rfl) h
  · rw [if_neg hc] at h
    refine lv_iload_n hx hb d_m_vector_4 rfl (lv_at hl 1 rfl) ?_
    refine lv_iconst (v := 2) hx hb d_m_vector_5 (by decide) ?_
    refine lv_icmp_gt hx hb d_m_vector_6 (tgt := 34) (by decide) (fun hc => ?_) (fun hc => ?_)
    · rw [if_pos hc] at h
      exact J34  H locs ls  hX hS (lv_sub hl [0] rfl) h
    · rw [if_neg hc] at h
      refine lv_aload_n hx hb d_m_vector_9 rfl (lv_at hl 0 rfl) ?_
      refine lv_iload_n hx hb d_m_vector_10 rfl (lv_at hl 2 rfl) ?_
      obtain ⟨q11, hc11, h⟩ := Option.bind_eq_some_iff.mp h
      refine ck_V (As := [.int x2]) (rest := []) (st1 := [.int (bI q11)]) (M_m_isType  hc11) t_1308 t_1310 p_67 t_1311 t_13 hx hb hts hown hC hX hS (hrc_m0 hC hX (by rfl)) hml hl.1 ⟨by rw [hRf]; decide, by rw [hRl]; decide⟩ ⟨rfl, rfl⟩ (n := 1) (by decide +kernel) rfl rfl rfl (lv_room (Nat.le_of_ble_eq_true rfl)) d_m_vector_11 (fun H locs hX hS => ?_)
      refine lz_ifeq hx hb d_m_vector_14 (tgt := 34) (by decide) (fun hc => ?_) (fun hc => ?_)
      · rw [if_neg hc] at h
        exact J34  H locs ls  hX hS (lv_sub hl [0] rfl) h
      · rw [if_pos hc] at h
        refine lv_aload_n hx hb d_m_vector_17 rfl (lv_at hl 0 rfl) ?_
        refine lv_iload_n hx hb d_m_vector_18 rfl (lv_at hl 3 rfl) ?_
        obtain ⟨q19, hc19, h⟩ := Option.bind_eq_some_iff.mp h
        refine ck_V (As := [.int x3]) (rest := []) (st1 := [.int (bI q19)]) (M_m_isType  hc19) t_1308 t_1310 p_67 t_1311 t_13 hx hb hts hown hC hX hS (hrc_m0 hC hX (by rfl)) hml hl.1 ⟨by rw [hRf]; decide, by rw [hRl]; decide⟩ ⟨rfl, rfl⟩ (n := 1) (by decide +kernel) rfl rfl rfl (lv_room (Nat.le_of_ble_eq_true rfl)) d_m_vector_19 (fun H locs hX hS => ?_)
        refine lz_ifeq hx hb d_m_vector_22 (tgt := 34) (by decide) (fun hc => ?_) (fun hc => ?_)
        · rw [if_neg hc] at h
          exact J34  H locs ls  hX hS (lv_sub hl [0] rfl) h
        · rw [if_pos hc] at h
          refine lv_aload_n hx hb d_m_vector_25 rfl (lv_at hl 0 rfl) ?_
          refine lv_iload hx hb d_m_vector_26 (lv_at hl 4 rfl) ?_
          obtain ⟨q28, hc28, h⟩ := Option.bind_eq_some_iff.mp h
          refine ck_V (As := [.int x4]) (rest := []) (st1 := [.int (bI q28)]) (M_m_isClass  hc28) t_1312 t_1314 p_68 t_1315 t_13 hx hb hts hown hC hX hS (hrc_m0 hC hX (by rfl)) hml hl.1 ⟨by rw [hRf]; decide, by rw [hRl]; decide⟩ ⟨rfl, rfl⟩ (n := 1) (by decide +kernel) rfl rfl rfl (lv_room (Nat.le_of_ble_eq_true rfl)) d_m_vector_28 (fun H locs hX hS => ?_)
          refine lz_ifne hx hb d_m_vector_31 (tgt := 41) (by decide) (fun hc => ?_) (fun hc => ?_)
          · rw [if_pos hc] at h
            refine lv_aload_n hx hb d_m_vector_41 rfl (lv_at hl 0 rfl) ?_
            refine lv_iconst (v := 0) hx hb d_m_vector_42 (by decide) ?_
            refine lv_aload_n hx hb d_m_vector_43 rfl (lv_at hl 0 rfl) ?_
            refine lv_iload_n hx hb d_m_vector_44 rfl (lv_at hl 1 rfl) ?_
            refine lv_iload_n hx hb d_m_vector_45 rfl (lv_at hl 2 rfl) ?_
            refine lv_iload_n hx hb d_m_vector_46 rfl (lv_at hl 3 rfl) ?_
            refine lv_iload hx hb d_m_vector_47 (lv_at hl 4 rfl) ?_
            obtain ⟨q49, hc49, h⟩ := Option.bind_eq_some_iff.mp h
            refine ck_V (As := [.int x1, .int x2, .int x3, .int x4]) (rest := [.int 0, .ref (b + 262)]) (st1 := [.int q49, .int 0, .ref (b + 262)]) (M_m_worked  hc49) t_1316 t_1318 p_69 t_1319 t_13 hx hb hts hown hC hX hS (hrc_m0 hC hX (by rfl)) hml hl.1 ⟨by rw [hRf]; decide, by rw [hRl]; decide⟩ ⟨rfl, rfl⟩ (n := 4) (by decide +kernel) rfl rfl rfl (lv_room (Nat.le_of_ble_eq_true rfl)) d_m_vector_49 (fun H locs hX hS => ?_)
            obtain ⟨q52, hc52, h⟩ := Option.bind_eq_some_iff.mp h
            refine ck_V (As := [.int 0, .int q49]) (rest := []) (st1 := [.int q52.2]) (M_m_give  hc52) t_1288 t_1290 p_66 t_1291 t_13 hx hb hts hown hC hX hS (hrc_m0 hC hX (by rfl)) hml hl.1 ⟨by rw [hRf]; decide, by rw [hRl]; decide⟩ ⟨rfl, rfl⟩ (n := 2) (by decide +kernel) rfl rfl rfl (lv_room (Nat.le_of_ble_eq_true rfl)) d_m_vector_52 (fun H locs hX hS => ?_)
            obtain rfl := Option.some.inj h
            exact rt_i hQ hx hb hr hX hS hlk d_m_vector_55
          · rw [if_neg hc] at h
            exact J34  H locs ls  hX hS (lv_sub hl [0] rfl) h
abbrev y_m_why : MethodName := ({ cls := "TypeGuardModel", name := "why", desc := "(IIII)I" } : Jvm.MethodName)
theorem d_m_why_0 : decode prog_14_method_47_code 0 = .ok (.aload_n 0, 1) := by decide +kernel
theorem d_m_why_1 : decode prog_14_method_47_code 1 = .ok (.iload_n 1, 1) := by decide +kernel
theorem d_m_why_2 : decode prog_14_method_47_code 2 = .ok (.invokevirtual 293, 3) := by decide +kernel
theorem d_m_why_5 : decode prog_14_method_47_code 5 = .ok (.ifCond .eq 19, 3) := by decide +kernel
theorem d_m_why_8 : decode prog_14_method_47_code 8 = .ok (.aload_n 0, 1) := by decide +kernel
theorem d_m_why_9 : decode prog_14_method_47_code 9 = .ok (.iload_n 2, 1) := by decide +kernel
theorem d_m_why_10 : decode prog_14_method_47_code 10 = .ok (.invokevirtual 293, 3) := by decide +kernel
theorem d_m_why_13 : decode prog_14_method_47_code 13 = .ok (.ifCond .eq 11, 3) := by decide +kernel
theorem d_m_why_16 : decode prog_14_method_47_code 16 = .ok (.aload_n 0, 1) := by decide +kernel
theorem d_m_why_17 : decode prog_14_method_47_code 17 = .ok (.iload_n 3, 1) := by decide +kernel
theorem d_m_why_18 : decode prog_14_method_47_code 18 = .ok (.invokevirtual 296, 3) := by decide +kernel
theorem d_m_why_21 : decode prog_14_method_47_code 21 = .ok (.ifCond .ne 10, 3) := by decide +kernel
theorem d_m_why_24 : decode prog_14_method_47_code 24 = .ok (.aload_n 0, 1) := by decide +kernel
theorem d_m_why_25 : decode prog_14_method_47_code 25 = .ok (.iconst 1, 1) := by decide +kernel
theorem d_m_why_26 : decode prog_14_method_47_code 26 = .ok (.iconst 0, 1) := by decide +kernel
theorem d_m_why_27 : decode prog_14_method_47_code 27 = .ok (.invokevirtual 284, 3) := by decide +kernel
theorem d_m_why_30 : decode prog_14_method_47_code 30 = .ok (.ireturn, 1) := by decide +kernel
theorem d_m_why_31 : decode prog_14_method_47_code 31 = .ok (.iconst (-1), 1) := by decide +kernel
theorem d_m_why_32 : decode prog_14_method_47_code 32 = .ok (.istore 5, 2) := by decide +kernel
theorem d_m_why_34 : decode prog_14_method_47_code 34 = .ok (.bipush 24, 2) := by decide +kernel
theorem d_m_why_36 : decode prog_14_method_47_code 36 = .ok (.aload_n 0, 1) := by decide +kernel
theorem d_m_why_37 : decode prog_14_method_47_code 37 = .ok (.getfield 154, 3) := by decide +kernel
theorem d_m_why_40 : decode prog_14_method_47_code 40 = .ok (.imul, 1) := by decide +kernel
theorem d_m_why_41 : decode prog_14_method_47_code 41 = .ok (.istore 6, 2) := by decide +kernel
theorem d_m_why_43 : decode prog_14_method_47_code 43 = .ok (.iload 6, 2) := by decide +kernel
theorem d_m_why_45 : decode prog_14_method_47_code 45 = .ok (.bipush 24, 2) := by decide +kernel
theorem d_m_why_47 : decode prog_14_method_47_code 47 = .ok (.aload_n 0, 1) := by decide +kernel
theorem d_m_why_48 : decode prog_14_method_47_code 48 = .ok (.getfield 154, 3) := by decide +kernel
theorem d_m_why_51 : decode prog_14_method_47_code 51 = .ok (.imul, 1) := by decide +kernel
theorem d_m_why_52 : decode prog_14_method_47_code 52 = .ok (.aload_n 0, 1) := by decide +kernel
theorem d_m_why_53 : decode prog_14_method_47_code 53 = .ok (.getfield 17, 3) := by decide +kernel
theorem d_m_why_56 : decode prog_14_method_47_code 56 = .ok (.iconst 5, 1) := by decide +kernel
theorem d_m_why_57 : decode prog_14_method_47_code 57 = .ok (.aload_n 0, 1) := by decide +kernel
theorem d_m_why_58 : decode prog_14_method_47_code 58 = .ok (.getfield 154, 3) := by decide +kernel
theorem d_m_why_61 : decode prog_14_method_47_code 61 = .ok (.imul, 1) := by decide +kernel
theorem d_m_why_62 : decode prog_14_method_47_code 62 = .ok (.iconst 4, 1) := by decide +kernel
theorem d_m_why_63 : decode prog_14_method_47_code 63 = .ok (.iadd, 1) := by decide +kernel
theorem d_m_why_64 : decode prog_14_method_47_code 64 = .ok (.iaload, 1) := by decide +kernel
theorem d_m_why_65 : decode prog_14_method_47_code 65 = .ok (.iadd, 1) := by decide +kernel
theorem d_m_why_66 : decode prog_14_method_47_code 66 = .ok (.if_icmp .ge 101, 3) := by decide +kernel
theorem d_m_why_69 : decode prog_14_method_47_code 69 = .ok (.iload 4, 2) := by decide +kernel
theorem d_m_why_71 : decode prog_14_method_47_code 71 = .ok (.ifCond .lt 96, 3) := by decide +kernel
theorem d_m_why_74 : decode prog_14_method_47_code 74 = .ok (.iload 4, 2) := by decide +kernel
theorem d_m_why_76 : decode prog_14_method_47_code 76 = .ok (.bipush 8, 2) := by decide +kernel
theorem d_m_why_78 : decode prog_14_method_47_code 78 = .ok (.if_icmp .ge 89, 3) := by decide +kernel
theorem d_m_why_81 : decode prog_14_method_47_code 81 = .ok (.aload_n 0, 1) := by decide +kernel
theorem d_m_why_82 : decode prog_14_method_47_code 82 = .ok (.getfield 46, 3) := by decide +kernel
theorem d_m_why_85 : decode prog_14_method_47_code 85 = .ok (.iload 6, 2) := by decide +kernel
theorem d_m_why_87 : decode prog_14_method_47_code 87 = .ok (.iaload, 1) := by decide +kernel
theorem d_m_why_88 : decode prog_14_method_47_code 88 = .ok (.ifCond .ne 51, 3) := by decide +kernel
theorem d_m_why_91 : decode prog_14_method_47_code 91 = .ok (.aload_n 0, 1) := by decide +kernel
theorem d_m_why_92 : decode prog_14_method_47_code 92 = .ok (.iload 6, 2) := by decide +kernel
theorem d_m_why_94 : decode prog_14_method_47_code 94 = .ok (.invokevirtual 290, 3) := by decide +kernel
theorem d_m_why_97 : decode prog_14_method_47_code 97 = .ok (.ifCond .eq 42, 3) := by decide +kernel
theorem d_m_why_100 : decode prog_14_method_47_code 100 = .ok (.aload_n 0, 1) := by decide +kernel
theorem d_m_why_101 : decode prog_14_method_47_code 101 = .ok (.iload 6, 2) := by decide +kernel
theorem d_m_why_103 : decode prog_14_method_47_code 103 = .ok (.iload_n 1, 1) := by decide +kernel
theorem d_m_why_104 : decode prog_14_method_47_code 104 = .ok (.invokevirtual 263, 3) := by decide +kernel
theorem d_m_why_107 : decode prog_14_method_47_code 107 = .ok (.iload_n 2, 1) := by decide +kernel
theorem d_m_why_108 : decode prog_14_method_47_code 108 = .ok (.ishr, 1) := by decide +kernel
theorem d_m_why_109 : decode prog_14_method_47_code 109 = .ok (.iconst 1, 1) := by decide +kernel
theorem d_m_why_110 : decode prog_14_method_47_code 110 = .ok (.iand, 1) := by decide +kernel
theorem d_m_why_111 : decode prog_14_method_47_code 111 = .ok (.iconst 1, 1) := by decide +kernel
theorem d_m_why_112 : decode prog_14_method_47_code 112 = .ok (.if_icmp .ne 27, 3) := by decide +kernel
theorem d_m_why_115 : decode prog_14_method_47_code 115 = .ok (.aload_n 0, 1) := by decide +kernel
theorem d_m_why_116 : decode prog_14_method_47_code 116 = .ok (.getfield 73, 3) := by decide +kernel
theorem d_m_why_119 : decode prog_14_method_47_code 119 = .ok (.iconst 4, 1) := by decide +kernel
theorem d_m_why_120 : decode prog_14_method_47_code 120 = .ok (.iload 6, 2) := by decide +kernel
theorem d_m_why_122 : decode prog_14_method_47_code 122 = .ok (.imul, 1) := by decide +kernel
theorem d_m_why_123 : decode prog_14_method_47_code 123 = .ok (.iload_n 3, 1) := by decide +kernel
theorem d_m_why_124 : decode prog_14_method_47_code 124 = .ok (.iadd, 1) := by decide +kernel
theorem d_m_why_125 : decode prog_14_method_47_code 125 = .ok (.iaload, 1) := by decide +kernel
theorem d_m_why_126 : decode prog_14_method_47_code 126 = .ok (.iload 4, 2) := by decide +kernel
theorem d_m_why_128 : decode prog_14_method_47_code 128 = .ok (.ishr, 1) := by decide +kernel
theorem d_m_why_129 : decode prog_14_method_47_code 129 = .ok (.iconst 1, 1) := by decide +kernel
theorem d_m_why_130 : decode prog_14_method_47_code 130 = .ok (.iand, 1) := by decide +kernel
theorem d_m_why_131 : decode prog_14_method_47_code 131 = .ok (.iconst 1, 1) := by decide +kernel
theorem d_m_why_132 : decode prog_14_method_47_code 132 = .ok (.if_icmp .ne 7, 3) := by decide +kernel
theorem d_m_why_135 : decode prog_14_method_47_code 135 = .ok (.iconst 1, 1) := by decide +kernel
theorem d_m_why_136 : decode prog_14_method_47_code 136 = .ok (.goto 4, 3) := by decide +kernel
theorem d_m_why_139 : decode prog_14_method_47_code 139 = .ok (.iconst 0, 1) := by decide +kernel
theorem d_m_why_140 : decode prog_14_method_47_code 140 = .ok (.istore 7, 2) := by decide +kernel
theorem d_m_why_142 : decode prog_14_method_47_code 142 = .ok (.iload 7, 2) := by decide +kernel
theorem d_m_why_144 : decode prog_14_method_47_code 144 = .ok (.ifCond .eq 17, 3) := by decide +kernel
theorem d_m_why_147 : decode prog_14_method_47_code 147 = .ok (.iload 5, 2) := by decide +kernel
theorem d_m_why_149 : decode prog_14_method_47_code 149 = .ok (.ifCond .ge 12, 3) := by decide +kernel
theorem d_m_why_152 : decode prog_14_method_47_code 152 = .ok (.aload_n 0, 1) := by decide +kernel
theorem d_m_why_153 : decode prog_14_method_47_code 153 = .ok (.getfield 49, 3) := by decide +kernel
theorem d_m_why_156 : decode prog_14_method_47_code 156 = .ok (.iload 6, 2) := by decide +kernel
theorem d_m_why_158 : decode prog_14_method_47_code 158 = .ok (.iaload, 1) := by decide +kernel
theorem d_m_why_159 : decode prog_14_method_47_code 159 = .ok (.istore 5, 2) := by decide +kernel
theorem d_m_why_161 : decode prog_14_method_47_code 161 = .ok (.iinc 6 1, 3) := by decide +kernel
theorem d_m_why_164 : decode prog_14_method_47_code 164 = .ok (.goto (-121), 3) := by decide +kernel
theorem d_m_why_167 : decode prog_14_method_47_code 167 = .ok (.aload_n 0, 1) := by decide +kernel
theorem d_m_why_168 : decode prog_14_method_47_code 168 = .ok (.iconst 0, 1) := by decide +kernel
theorem d_m_why_169 : decode prog_14_method_47_code 169 = .ok (.iload 5, 2) := by decide +kernel
theorem d_m_why_171 : decode prog_14_method_47_code 171 = .ok (.invokevirtual 284, 3) := by decide +kernel
theorem d_m_why_174 : decode prog_14_method_47_code 174 = .ok (.ireturn, 1) := by decide +kernel
def m_why_J167 (v5_167 : Int32) (S_167 : MS) : Option (MS × Int32) := ((m_give 0 v5_167 S_167).bind fun q171 => some (q171.1, q171.2))
def m_why_J140 (kO43 : Int32 → Int32 → Option (MS × Int32)) (v1_140 : Int32) (v2_140 : Int32) (v3_140 : Int32) (v4_140 : Int32) (v5_140 : Int32) (v6_140 : Int32) (s0_140 : Bool) (S_140 : MS) : Option (MS × Int32) := (if s0_140 = true then (if 0 ≤ v5_140 then (bd ((v6_140 + 1)) fun a161 => kO43 v5_140 a161) else (if inbd v6_140 48 = true then (bd ((gI S_140 12 (txN v6_140))) fun a159 => (bd ((v6_140 + 1)) fun a161 => kO43 a159 a161)) else none)) else (bd ((v6_140 + 1)) fun a161 => kO43 v5_140 a161))
def m_why_J139 (kO43 : Int32 → Int32 → Option (MS × Int32)) (v1_139 : Int32) (v2_139 : Int32) (v3_139 : Int32) (v4_139 : Int32) (v5_139 : Int32) (v6_139 : Int32) (S_139 : MS) : Option (MS × Int32) := m_why_J140 kO43 v1_139 v2_139 v3_139 v4_139 v5_139 v6_139 false S_139
def m_why_L43 (v1_43 : Int32) (v2_43 : Int32) (v3_43 : Int32) (v4_43 : Int32) (S_43 : MS) : Nat → Int32 → Int32 → Option (MS × Int32)
  | 0, _, _ => none
  | n + 1, v5_43, v6_43 => (if inbd ((5 * (gI S_43 0 12)) + 4) 10 = true then (if ((24 * (gI S_43 0 12)) + (gI S_43 2 (txN ((5 * (gI S_43 0 12)) + 4)))) ≤ v6_43 then m_why_J167 v5_43 S_43 else (if v4_43 < 0 then m_why_J167 v5_43 S_43 else (if 8 ≤ v4_43 then m_why_J167 v5_43 S_43 else (if inbd v6_43 48 = true then (if (gI S_43 11 (txN v6_43)) = 0 then ((m_isInForce v6_43 S_43).bind fun q94 => (if q94 = true then ((m_targetsOf v6_43 v1_43 S_43).bind fun q104 => (if ((q104 >>> (v2_43 &&& 31)) &&& 1) = 1 then (if inbd ((4 * v6_43) + v3_43) 192 = true then (if (((gI S_43 20 (txN ((4 * v6_43) + v3_43))) >>> (v4_43 &&& 31)) &&& 1) = 1 then m_why_J140 (m_why_L43 v1_43 v2_43 v3_43 v4_43 S_43 n) v1_43 v2_43 v3_43 v4_43 v5_43 v6_43 true S_43 else m_why_J139 (m_why_L43 v1_43 v2_43 v3_43 v4_43 S_43 n) v1_43 v2_43 v3_43 v4_43 v5_43 v6_43 S_43) else none) else m_why_J139 (m_why_L43 v1_43 v2_43 v3_43 v4_43 S_43 n) v1_43 v2_43 v3_43 v4_43 v5_43 v6_43 S_43)) else m_why_J139 (m_why_L43 v1_43 v2_43 v3_43 v4_43 S_43 n) v1_43 v2_43 v3_43 v4_43 v5_43 v6_43 S_43)) else m_why_J139 (m_why_L43 v1_43 v2_43 v3_43 v4_43 S_43 n) v1_43 v2_43 v3_43 v4_43 v5_43 v6_43 S_43) else none)))) else none)
def m_why_J24 (S_24 : MS) : Option (MS × Int32) := ((m_give 1 0 S_24).bind fun q27 => some (q27.1, q27.2))
def m_why (x1 : Int32) (x2 : Int32) (x3 : Int32) (x4 : Int32) (S : MS) : Option (MS × Int32) := ((m_isType x1 S).bind fun q2 => (if q2 = true then ((m_isType x2 S).bind fun q10 => (if q10 = true then ((m_isClass x3 S).bind fun q18 => (if q18 = true then (bd ((24 * (gI S 0 12))) fun a41 => m_why_L43 x1 x2 x3 x4 S 600 (-1) a41) else m_why_J24 S)) else m_why_J24 S)) else m_why_J24 S))
set_option maxHeartbeats 4000000 in
set_option maxRecDepth 100000 in
theorem M_m_why {l : Launch} {D : va_G} {cA : Nat → ClassId} {b : Nat} {ad : Nat → Nat} {x1 : Int32} {x2 : Int32} {x3 : Int32} {x4 : Int32} {S : MS} {T : CS} {o : Nat → Int64} {rr : (MS × Int32)}  (h : m_why x1 x2 x3 x4 S = some rr) : Met l y_m_why (Cond.code y_m_why prog_14_method_47_code 8 (Option.some Jvm.ClassFile.FieldType.int) :: TW) { frames := 1, cells := 0, slots := 0, locals := 22 } (va_Pc [.ref (b + 262), .int x1, .int x2, .int x3, .int x4] (Rp D cA b ad (T, S, o))) (Qr D cA b ad (T, rr.1, o) (some (.int rr.2))) 0 0 (Ab b) := by
  refine Ct_of (by decide) (Nat.le_of_ble_eq_true rfl) ?_
  intro p e R s m args below meth c ls Q H locs hR hQ hx hb hts hown hml hr hlk hC hX hS hl
  have hRf : R.frames = 1 := by rw [hR]
  have hRl : R.locals = 22 := by rw [hR]
  have hown : s.vm.findClass "TypeGuardModel" = some m.cls := hown
  have hl : lv_has ls 8 [(0, .ref (b + 262)), (1, .int x1), (2, .int x2), (3, .int x3), (4, .int x4)] := hl
  rw [m_why] at h
  refine lv_aload_n hx hb d_m_why_0 rfl (lv_at hl 0 rfl) ?_
  refine lv_iload_n hx hb d_m_why_1 rfl (lv_at hl 1 rfl) ?_
  obtain ⟨q2, hc2, h⟩ := Option.bind_eq_some_iff.mp h
  refine ck_V (As := [.int x1]) (rest := []) (st1 := [.int (bI q2)]) (M_m_isType  hc2) t_1308 t_1310 p_67 t_1311 t_13 hx hb hts hown hC hX hS (hrc_m0 hC hX (by rfl)) hml hl.1 ⟨by rw [hRf]; decide, by rw [hRl]; decide⟩ ⟨rfl, rfl⟩ (n := 1) (by decide +kernel) rfl rfl rfl (lv_room (Nat.le_of_ble_eq_true rfl)) d_m_why_2 (fun H locs hX hS => ?_)
  have J24 : ∀  (H : Heap) (locs : List Loc) (ls : Array Slot), hp D cA b ad (T, S, o) H → va_S (Ab b) s.heap H locs → lv_has ls 8 [(0, .ref (b + 262))] → m_why_J24 S = some rr → W p l e R s m args below meth c H locs 0 0 Q (F0 m 24 ls []) := by
    intro  H locs ls  hX hS hl h
    rw [m_why_J24] at h
    refine lv_aload_n hx hb d_m_why_24 rfl (lv_at hl 0 rfl) ?_
    refine lv_iconst (v := 1) hx hb d_m_why_25 (by decide) ?_
    refine lv_iconst (v := 0) hx hb d_m_why_26 (by decide) ?_
    obtain ⟨q27, hc27, h⟩ := Option.bind_eq_some_iff.mp h
    refine ck_V (As := [.int 1, .int 0]) (rest := []) (st1 := [.int q27.2]) (M_m_give  hc27) t_1288 t_1290 p_66 t_1291 t_13 hx hb hts hown hC hX hS (hrc_m0 hC hX (by rfl)) hml hl.1 ⟨by rw [hRf]; decide, by rw [hRl]; decide⟩ ⟨rfl, rfl⟩ (n := 2) (by decide +kernel) rfl rfl rfl (lv_room (Nat.le_of_ble_eq_true rfl)) d_m_why_27 (fun H locs hX hS => ?_)
    obtain rfl := Option.some.inj h
    exact rt_i hQ hx hb hr hX hS hlk d_m_why_30
  refine lz_ifeq hx hb d_m_why_5 (tgt := 24) (by decide) (fun hc => ?_) (fun hc => ?_)
  · rw [if_neg hc] at h
    exact J24  H locs ls  hX hS (lv_sub hl [0] rfl) h
  · rw [if_pos hc] at h
    refine lv_aload_n hx hb d_m_why_8 rfl (lv_at hl 0 rfl) ?_
    refine lv_iload_n hx hb d_m_why_9 rfl (lv_at hl 2 rfl) ?_
    obtain ⟨q10, hc10, h⟩ := Option.bind_eq_some_iff.mp h
    refine ck_V (As := [.int x2]) (rest := []) (st1 := [.int (bI q10)]) (M_m_isType  hc10) t_1308 t_1310 p_67 t_1311 t_13 hx hb hts hown hC hX hS (hrc_m0 hC hX (by rfl)) hml hl.1 ⟨by rw [hRf]; decide, by rw [hRl]; decide⟩ ⟨rfl, rfl⟩ (n := 1) (by decide +kernel) rfl rfl rfl (lv_room (Nat.le_of_ble_eq_true rfl)) d_m_why_10 (fun H locs hX hS => ?_)
    refine lz_ifeq hx hb d_m_why_13 (tgt := 24) (by decide) (fun hc => ?_) (fun hc => ?_)
    · rw [if_neg hc] at h
      exact J24  H locs ls  hX hS (lv_sub hl [0] rfl) h
    · rw [if_pos hc] at h
      refine lv_aload_n hx hb d_m_why_16 rfl (lv_at hl 0 rfl) ?_
      refine lv_iload_n hx hb d_m_why_17 rfl (lv_at hl 3 rfl) ?_
      obtain ⟨q18, hc18, h⟩ := Option.bind_eq_some_iff.mp h
      refine ck_V (As := [.int x3]) (rest := []) (st1 := [.int (bI q18)]) (M_m_isClass  hc18) t_1312 t_1314 p_68 t_1315 t_13 hx hb hts hown hC hX hS (hrc_m0 hC hX (by rfl)) hml hl.1 ⟨by rw [hRf]; decide, by rw [hRl]; decide⟩ ⟨rfl, rfl⟩ (n := 1) (by decide +kernel) rfl rfl rfl (lv_room (Nat.le_of_ble_eq_true rfl)) d_m_why_18 (fun H locs hX hS => ?_)
      refine lz_ifne hx hb d_m_why_21 (tgt := 31) (by decide) (fun hc => ?_) (fun hc => ?_)
      · rw [if_pos hc] at h
        refine lv_iconst (v := (-1)) hx hb d_m_why_31 (by decide) ?_
        refine lv_istore (lv' := [(5, .int (-1)), (0, .ref (b + 262)), (1, .int x1), (2, .int x2), (3, .int x3), (4, .int x4)]) hx hb d_m_why_32 hl (by decide) rfl (fun ls hl => ?_)
        refine lv_bipush (v := 24) hx hb d_m_why_34 (by decide) ?_
        refine lv_aload_n hx hb d_m_why_36 rfl (lv_at hl 1 rfl) ?_
        refine m_get_0_12 hx hb hts hown hC hX (by rfl) (hts _ t_999) d_m_why_37 ?_
        refine lv_imul hx hb d_m_why_40 ?_
        obtain ⟨a41, e41, h⟩ := bd_some h
        refine lt_I e41 ?_
        refine lv_istore (lv' := [(6, .int a41), (5, .int (-1)), (0, .ref (b + 262)), (1, .int x1), (2, .int x2), (3, .int x3), (4, .int x4)]) hx hb d_m_why_41 hl (by decide) rfl (fun ls hl => ?_)
        have L43 : ∀ (n43 : Nat) (v5_43 : Int32) (v6_43 : Int32) (H : Heap) (locs : List Loc) (ls : Array Slot), hp D cA b ad (T, S, o) H → va_S (Ab b) s.heap H locs → lv_has ls 8 [(0, .ref (b + 262)), (1, .int x1), (2, .int x2), (3, .int x3), (4, .int x4), (5, .int v5_43), (6, .int v6_43)] → m_why_L43 x1 x2 x3 x4 S n43 v5_43 v6_43 = some rr → W p l e R s m args below meth c H locs 0 0 Q (F0 m 43 ls []) := by
          intro n43; induction n43 with
          | zero => intro v5_43 v6_43 H locs ls  hX hS hl h; rw [m_why_L43] at h; cases h
          | succ n43 ih43 =>
            intro v5_43 v6_43 H locs ls  hX hS hl h
            rw [m_why_L43] at h
            refine lv_iload hx hb d_m_why_43 (lv_at hl 6 rfl) ?_
            refine lv_bipush (v := 24) hx hb d_m_why_45 (by decide) ?_
            refine lv_aload_n hx hb d_m_why_47 rfl (lv_at hl 0 rfl) ?_
            refine m_get_0_12 hx hb hts hown hC hX (by rfl) (hts _ t_999) d_m_why_48 ?_
            refine lv_imul hx hb d_m_why_51 ?_
            refine lv_aload_n hx hb d_m_why_52 rfl (lv_at hl 0 rfl) ?_
            refine m_get_0_13 hx hb hts hown hC hX (by rfl) (hts _ t_1000) d_m_why_53 ?_
            refine lv_iconst (v := 5) hx hb d_m_why_56 (by decide) ?_
            refine lv_aload_n hx hb d_m_why_57 rfl (lv_at hl 0 rfl) ?_
            refine m_get_0_12 hx hb hts hown hC hX (by rfl) (hts _ t_999) d_m_why_58 ?_
            refine lv_imul hx hb d_m_why_61 ?_
            refine lv_iconst (v := 4) hx hb d_m_why_62 (by decide) ?_
            refine lv_iadd hx hb d_m_why_63 ?_
            by_cases hg64 : inbd ((5 * (gI S 0 12)) + 4) 10 = true
            rotate_left; · rw [if_neg hg64] at h; cases h
            rw [if_pos hg64] at h
            refine m_ald_1 (k := 2) hx hb hC hX (by rfl) hg64 d_m_why_64 ?_
            refine lv_iadd hx hb d_m_why_65 ?_
            have J167 : ∀  (H : Heap) (locs : List Loc) (ls : Array Slot), hp D cA b ad (T, S, o) H → va_S (Ab b) s.heap H locs → lv_has ls 8 [(0, .ref (b + 262)), (5, .int v5_43)] → m_why_J167 v5_43 S = some rr → W p l e R s m args below meth c H locs 0 0 Q (F0 m 167 ls []) := by
              intro  H locs ls  hX hS hl h
              rw [m_why_J167] at h
              refine lv_aload_n hx hb d_m_why_167 rfl (lv_at hl 0 rfl) ?_
              refine lv_iconst (v := 0) hx hb d_m_why_168 (by decide) ?_
              refine lv_iload hx hb d_m_why_169 (lv_at hl 1 rfl) ?_
              obtain ⟨q171, hc171, h⟩ := Option.bind_eq_some_iff.mp h
              refine ck_V (As := [.int 0, .int v5_43]) (rest := []) (st1 := [.int q171.2]) (M_m_give  hc171) t_1288 t_1290 p_66 t_1291 t_13 hx hb hts hown hC hX hS (hrc_m0 hC hX (by rfl)) hml hl.1 ⟨by rw [hRf]; decide, by rw [hRl]; decide⟩ ⟨rfl, rfl⟩ (n := 2) (by decide +kernel) rfl rfl rfl (lv_room (Nat.le_of_ble_eq_true rfl)) d_m_why_171 (fun H locs hX hS => ?_)
              obtain rfl := Option.some.inj h
              exact rt_i hQ hx hb hr hX hS hlk d_m_why_174
            refine lv_icmp_ge hx hb d_m_why_66 (tgt := 167) (by decide) (fun hc => ?_) (fun hc => ?_)
            · rw [if_pos hc] at h
              exact J167  H locs ls  hX hS (lv_sub hl [0, 5] rfl) h
            · rw [if_neg hc] at h
              refine lv_iload hx hb d_m_why_69 (lv_at hl 4 rfl) ?_
              refine lv_if_lt hx hb d_m_why_71 (tgt := 167) (by decide) (fun hc => ?_) (fun hc => ?_)
              · rw [if_pos hc] at h
                exact J167  H locs ls  hX hS (lv_sub hl [0, 5] rfl) h
              · rw [if_neg hc] at h
                refine lv_iload hx hb d_m_why_74 (lv_at hl 4 rfl) ?_
                refine lv_bipush (v := 8) hx hb d_m_why_76 (by decide) ?_
                refine lv_icmp_ge hx hb d_m_why_78 (tgt := 167) (by decide) (fun hc => ?_) (fun hc => ?_)
                · rw [if_pos hc] at h
                  exact J167  H locs ls  hX hS (lv_sub hl [0, 5] rfl) h
                · rw [if_neg hc] at h
                  refine lv_aload_n hx hb d_m_why_81 rfl (lv_at hl 0 rfl) ?_
                  refine m_get_0_22 hx hb hts hown hC hX (by rfl) (hts _ t_1009) d_m_why_82 ?_
                  refine lv_iload hx hb d_m_why_85 (lv_at hl 6 rfl) ?_
                  by_cases hg87 : inbd v6_43 48 = true
                  rotate_left; · rw [if_neg hg87] at h; cases h
                  rw [if_pos hg87] at h
                  refine m_ald_1 (k := 11) hx hb hC hX (by rfl) hg87 d_m_why_87 ?_
                  have J140 : ∀ (s0_140 : Bool) (H : Heap) (locs : List Loc) (ls : Array Slot), hp D cA b ad (T, S, o) H → va_S (Ab b) s.heap H locs → lv_has ls 8 [(0, .ref (b + 262)), (1, .int x1), (2, .int x2), (3, .int x3), (4, .int x4), (5, .int v5_43), (6, .int v6_43)] → m_why_J140 (m_why_L43 x1 x2 x3 x4 S n43) x1 x2 x3 x4 v5_43 v6_43 s0_140 S = some rr → W p l e R s m args below meth c H locs 0 0 Q (F0 m 140 ls [.int (bI s0_140)]) := by
                    intro s0_140 H locs ls  hX hS hl h
                    rw [m_why_J140] at h
                    refine lv_istore (lv' := [(7, .int (bI s0_140)), (0, .ref (b + 262)), (1, .int x1), (2, .int x2), (3, .int x3), (4, .int x4), (5, .int v5_43), (6, .int v6_43)]) hx hb d_m_why_140 hl (by decide) rfl (fun ls hl => ?_)
                    refine lv_iload hx hb d_m_why_142 (lv_at hl 0 rfl) ?_
                    refine lz_ifeq hx hb d_m_why_144 (tgt := 161) (by decide) (fun hc => ?_) (fun hc => ?_)
                    · rw [if_neg hc] at h
                      obtain ⟨a161, e161, h⟩ := bd_some h
                      refine lv_iinc (v := a161) (lv' := [(6, .int a161), (7, .int (bI s0_140)), (0, .ref (b + 262)), (1, .int x1), (2, .int x2), (3, .int x3), (4, .int x4), (5, .int v5_43)]) hx hb d_m_why_161 hl (k := 7) rfl e161.symm (by decide) rfl (fun ls hl => ?_)
                      refine lv_goto hx hb d_m_why_164 (tgt := 43) (by decide) ?_
                      exact ih43 v5_43 a161 H locs ls  hX hS (lv_sub hl [2, 3, 4, 5, 6, 7, 0] rfl) h
                    · rw [if_pos hc] at h
                      refine lv_iload hx hb d_m_why_147 (lv_at hl 6 rfl) ?_
                      refine lv_if_ge hx hb d_m_why_149 (tgt := 161) (by decide) (fun hc => ?_) (fun hc => ?_)
                      · rw [if_pos hc] at h
                        obtain ⟨a161, e161, h⟩ := bd_some h
                        refine lv_iinc (v := a161) (lv' := [(6, .int a161), (7, .int (bI s0_140)), (0, .ref (b + 262)), (1, .int x1), (2, .int x2), (3, .int x3), (4, .int x4), (5, .int v5_43)]) hx hb d_m_why_161 hl (k := 7) rfl e161.symm (by decide) rfl (fun ls hl => ?_)
                        refine lv_goto hx hb d_m_why_164 (tgt := 43) (by decide) ?_
                        exact ih43 v5_43 a161 H locs ls  hX hS (lv_sub hl [2, 3, 4, 5, 6, 7, 0] rfl) h
                      · rw [if_neg hc] at h
                        refine lv_aload_n hx hb d_m_why_152 rfl (lv_at hl 1 rfl) ?_
                        refine m_get_0_23 hx hb hts hown hC hX (by rfl) (hts _ t_1010) d_m_why_153 ?_
                        refine lv_iload hx hb d_m_why_156 (lv_at hl 7 rfl) ?_
                        by_cases hg158 : inbd v6_43 48 = true
                        rotate_left; · rw [if_neg hg158] at h; cases h
                        rw [if_pos hg158] at h
                        refine m_ald_1 (k := 12) hx hb hC hX (by rfl) hg158 d_m_why_158 ?_
                        obtain ⟨a159, e159, h⟩ := bd_some h
                        refine lt_I e159 ?_
                        refine lv_istore (lv' := [(5, .int a159), (7, .int (bI s0_140)), (0, .ref (b + 262)), (1, .int x1), (2, .int x2), (3, .int x3), (4, .int x4), (6, .int v6_43)]) hx hb d_m_why_159 hl (by decide) rfl (fun ls hl => ?_)
                        obtain ⟨a161, e161, h⟩ := bd_some h
                        refine lv_iinc (v := a161) (lv' := [(6, .int a161), (5, .int a159), (7, .int (bI s0_140)), (0, .ref (b + 262)), (1, .int x1), (2, .int x2), (3, .int x3), (4, .int x4)]) hx hb d_m_why_161 hl (k := 7) rfl e161.symm (by decide) rfl (fun ls hl => ?_)
                        refine lv_goto hx hb d_m_why_164 (tgt := 43) (by decide) ?_
                        exact ih43 a159 a161 H locs ls  hX hS (lv_sub hl [3, 4, 5, 6, 7, 1, 0] rfl) h
                  have J139 : ∀  (H : Heap) (locs : List Loc) (ls : Array Slot), hp D cA b ad (T, S, o) H → va_S (Ab b) s.heap H locs → lv_has ls 8 [(0, .ref (b + 262)), (1, .int x1), (2, .int x2), (3, .int x3), (4, .int x4), (5, .int v5_43), (6, .int v6_43)] → m_why_J139 (m_why_L43 x1 x2 x3 x4 S n43) x1 x2 x3 x4 v5_43 v6_43 S = some rr → W p l e R s m args below meth c H locs 0 0 Q (F0 m 139 ls []) := by
                    intro  H locs ls  hX hS hl h
                    rw [m_why_J139] at h
                    refine lv_iconst (v := 0) hx hb d_m_why_139 (by decide) ?_
                    exact J140 false H locs ls  hX hS (lv_sub hl [0, 1, 2, 3, 4, 5, 6] rfl) h
                  refine lv_if_ne hx hb d_m_why_88 (tgt := 139) (by decide) (fun hc => ?_) (fun hc => ?_)
                  · rw [if_neg hc] at h
                    exact J139  H locs ls  hX hS (lv_sub hl [0, 1, 2, 3, 4, 5, 6] rfl) h
                  · rw [if_pos hc] at h
                    refine lv_aload_n hx hb d_m_why_91 rfl (lv_at hl 0 rfl) ?_
                    refine lv_iload hx hb d_m_why_92 (lv_at hl 6 rfl) ?_
                    obtain ⟨q94, hc94, h⟩ := Option.bind_eq_some_iff.mp h
                    refine ck_V (As := [.int v6_43]) (rest := []) (st1 := [.int (bI q94)]) (M_m_isInForce  hc94) t_1320 t_1322 p_70 t_1323 t_13 hx hb hts hown hC hX hS (hrc_m0 hC hX (by rfl)) hml hl.1 ⟨by rw [hRf]; decide, by rw [hRl]; decide⟩ ⟨rfl, rfl⟩ (n := 1) (by decide +kernel) rfl rfl rfl (lv_room (Nat.le_of_ble_eq_true rfl)) d_m_why_94 (fun H locs hX hS => ?_)
                    refine lz_ifeq hx hb d_m_why_97 (tgt := 139) (by decide) (fun hc => ?_) (fun hc => ?_)
                    · rw [if_neg hc] at h
                      exact J139  H locs ls  hX hS (lv_sub hl [0, 1, 2, 3, 4, 5, 6] rfl) h
                    · rw [if_pos hc] at h
                      refine lv_aload_n hx hb d_m_why_100 rfl (lv_at hl 0 rfl) ?_
                      refine lv_iload hx hb d_m_why_101 (lv_at hl 6 rfl) ?_
                      refine lv_iload_n hx hb d_m_why_103 rfl (lv_at hl 1 rfl) ?_
                      obtain ⟨q104, hc104, h⟩ := Option.bind_eq_some_iff.mp h
                      refine ck_V (As := [.int v6_43, .int x1]) (rest := []) (st1 := [.int q104]) (M_m_targetsOf  hc104) t_1284 t_1286 p_65 t_1287 t_13 hx hb hts hown hC hX hS (hrc_m0 hC hX (by rfl)) hml hl.1 ⟨by rw [hRf]; decide, by rw [hRl]; decide⟩ ⟨rfl, rfl⟩ (n := 2) (by decide +kernel) rfl rfl rfl (lv_room (Nat.le_of_ble_eq_true rfl)) d_m_why_104 (fun H locs hX hS => ?_)
                      refine lv_iload_n hx hb d_m_why_107 rfl (lv_at hl 2 rfl) ?_
                      refine lv_ishr hx hb d_m_why_108 ?_
                      refine lv_iconst (v := 1) hx hb d_m_why_109 (by decide) ?_
                      refine lv_iand hx hb d_m_why_110 ?_
                      refine lv_iconst (v := 1) hx hb d_m_why_111 (by decide) ?_
                      refine lv_icmp_ne hx hb d_m_why_112 (tgt := 139) (by decide) (fun hc => ?_) (fun hc => ?_)
                      · rw [if_neg hc] at h
                        exact J139  H locs ls  hX hS (lv_sub hl [0, 1, 2, 3, 4, 5, 6] rfl) h
                      · rw [if_pos hc] at h
                        refine lv_aload_n hx hb d_m_why_115 rfl (lv_at hl 0 rfl) ?_
                        refine m_get_0_31 hx hb hts hown hC hX (by rfl) (hts _ t_1018) d_m_why_116 ?_
                        refine lv_iconst (v := 4) hx hb d_m_why_119 (by decide) ?_
                        refine lv_iload hx hb d_m_why_120 (lv_at hl 6 rfl) ?_
                        refine lv_imul hx hb d_m_why_122 ?_
                        refine lv_iload_n hx hb d_m_why_123 rfl (lv_at hl 3 rfl) ?_
                        refine lv_iadd hx hb d_m_why_124 ?_
                        by_cases hg125 : inbd ((4 * v6_43) + x3) 192 = true
                        rotate_left; · rw [if_neg hg125] at h; cases h
                        rw [if_pos hg125] at h
                        refine m_ald_1 (k := 20) hx hb hC hX (by rfl) hg125 d_m_why_125 ?_
                        refine lv_iload hx hb d_m_why_126 (lv_at hl 4 rfl) ?_
                        refine lv_ishr hx hb d_m_why_128 ?_
                        refine lv_iconst (v := 1) hx hb d_m_why_129 (by decide) ?_
                        refine lv_iand hx hb d_m_why_130 ?_
                        refine lv_iconst (v := 1) hx hb d_m_why_131 (by decide) ?_
                        refine lv_icmp_ne hx hb d_m_why_132 (tgt := 139) (by decide) (fun hc => ?_) (fun hc => ?_)
                        · rw [if_neg hc] at h
                          exact J139  H locs ls  hX hS (lv_sub hl [0, 1, 2, 3, 4, 5, 6] rfl) h
                        · rw [if_pos hc] at h
                          refine lv_iconst (v := 1) hx hb d_m_why_135 (by decide) ?_
                          refine lv_goto hx hb d_m_why_136 (tgt := 140) (by decide) ?_
                          exact J140 true H locs ls  hX hS (lv_sub hl [0, 1, 2, 3, 4, 5, 6] rfl) h
        exact L43 600 (-1) a41 H locs ls  hX hS (lv_sub hl [2, 3, 4, 5, 6, 1, 0] rfl) h
      · rw [if_neg hc] at h
        exact J24  H locs ls  hX hS (lv_sub hl [0] rfl) h
abbrev y_m_isProcess : MethodName := ({ cls := "TypeGuardModel", name := "isProcess", desc := "(I)Z" } : Jvm.MethodName)
theorem d_m_isProcess_0 : decode prog_14_method_48_code 0 = .ok (.iload_n 0, 1) := by decide +kernel
theorem d_m_isProcess_1 : decode prog_14_method_48_code 1 = .ok (.ifCond .lt 13, 3) := by decide +kernel
theorem d_m_isProcess_4 : decode prog_14_method_48_code 4 = .ok (.iload_n 0, 1) := by decide +kernel
theorem d_m_isProcess_5 : decode prog_14_method_48_code 5 = .ok (.bipush 6, 2) := by decide +kernel
theorem d_m_isProcess_7 : decode prog_14_method_48_code 7 = .ok (.if_icmp .ge 7, 3) := by decide +kernel
theorem d_m_isProcess_10 : decode prog_14_method_48_code 10 = .ok (.iconst 1, 1) := by decide +kernel
theorem d_m_isProcess_11 : decode prog_14_method_48_code 11 = .ok (.goto 4, 3) := by decide +kernel
theorem d_m_isProcess_14 : decode prog_14_method_48_code 14 = .ok (.iconst 0, 1) := by decide +kernel
theorem d_m_isProcess_15 : decode prog_14_method_48_code 15 = .ok (.ireturn, 1) := by decide +kernel
def m_isProcess (x0 : Int32) : Option Bool := (if x0 < 0 then some false else (if 6 ≤ x0 then some false else some true))
set_option maxHeartbeats 4000000 in
set_option maxRecDepth 100000 in
theorem M_m_isProcess {l : Launch} {D : va_G} {cA : Nat → ClassId} {b : Nat} {ad : Nat → Nat} {x0 : Int32} {S : MS} {T : CS} {o : Nat → Int64} {rr : Bool}  (h : m_isProcess x0 = some rr) : Met l y_m_isProcess (Cond.code y_m_isProcess prog_14_method_48_code 1 (Option.some Jvm.ClassFile.FieldType.boolean) :: TW) { frames := 0, cells := 0, slots := 0, locals := 0 } (va_Pc [.int x0] (Rp D cA b ad (T, S, o))) (Qr D cA b ad (T, S, o) (some (.int (bI rr)))) 0 0 (Ab b) := by
  refine Ct_of (by decide) (Nat.le_of_ble_eq_true rfl) ?_
  intro p e R s m args below meth c ls Q H locs hR hQ hx hb hts hown hml hr hlk hC hX hS hl
  have hRf : R.frames = 0 := by rw [hR]
  have hRl : R.locals = 0 := by rw [hR]
  have hown : s.vm.findClass "TypeGuardModel" = some m.cls := hown
  have hl : lv_has ls 1 [(0, .int x0)] := hl
  rw [m_isProcess] at h
  refine lv_iload_n hx hb d_m_isProcess_0 rfl (lv_at hl 0 rfl) ?_
  refine lv_if_lt hx hb d_m_isProcess_1 (tgt := 14) (by decide) (fun hc => ?_) (fun hc => ?_)
  · rw [if_pos hc] at h
    refine lv_iconst (v := 0) hx hb d_m_isProcess_14 (by decide) ?_
    obtain rfl := Option.some.inj h
    exact rt_zf hQ hx hb hr hX hS hlk d_m_isProcess_15
  · rw [if_neg hc] at h
    refine lv_iload_n hx hb d_m_isProcess_4 rfl (lv_at hl 0 rfl) ?_
    refine lv_bipush (v := 6) hx hb d_m_isProcess_5 (by decide) ?_
    refine lv_icmp_ge hx hb d_m_isProcess_7 (tgt := 14) (by decide) (fun hc => ?_) (fun hc => ?_)
    · rw [if_pos hc] at h
      refine lv_iconst (v := 0) hx hb d_m_isProcess_14 (by decide) ?_
      obtain rfl := Option.some.inj h
      exact rt_zf hQ hx hb hr hX hS hlk d_m_isProcess_15
    · rw [if_neg hc] at h
      refine lv_iconst (v := 1) hx hb d_m_isProcess_10 (by decide) ?_
      refine lv_goto hx hb d_m_isProcess_11 (tgt := 15) (by decide) ?_
      obtain rfl := Option.some.inj h
      exact rt_zt hQ hx hb hr hX hS hlk d_m_isProcess_15
abbrev y_m_isObject : MethodName := ({ cls := "TypeGuardModel", name := "isObject", desc := "(I)Z" } : Jvm.MethodName)
theorem d_m_isObject_0 : decode prog_14_method_49_code 0 = .ok (.iload_n 0, 1) := by decide +kernel
theorem d_m_isObject_1 : decode prog_14_method_49_code 1 = .ok (.ifCond .lt 13, 3) := by decide +kernel
theorem d_m_isObject_4 : decode prog_14_method_49_code 4 = .ok (.iload_n 0, 1) := by decide +kernel
theorem d_m_isObject_5 : decode prog_14_method_49_code 5 = .ok (.bipush 10, 2) := by decide +kernel
theorem d_m_isObject_7 : decode prog_14_method_49_code 7 = .ok (.if_icmp .ge 7, 3) := by decide +kernel
theorem d_m_isObject_10 : decode prog_14_method_49_code 10 = .ok (.iconst 1, 1) := by decide +kernel
theorem d_m_isObject_11 : decode prog_14_method_49_code 11 = .ok (.goto 4, 3) := by decide +kernel
theorem d_m_isObject_14 : decode prog_14_method_49_code 14 = .ok (.iconst 0, 1) := by decide +kernel
theorem d_m_isObject_15 : decode prog_14_method_49_code 15 = .ok (.ireturn, 1) := by decide +kernel
def m_isObject (x0 : Int32) : Option Bool := (if x0 < 0 then some false else (if 10 ≤ x0 then some false else some true))
set_option maxHeartbeats 4000000 in
set_option maxRecDepth 100000 in
theorem M_m_isObject {l : Launch} {D : va_G} {cA : Nat → ClassId} {b : Nat} {ad : Nat → Nat} {x0 : Int32} {S : MS} {T : CS} {o : Nat → Int64} {rr : Bool}  (h : m_isObject x0 = some rr) : Met l y_m_isObject (Cond.code y_m_isObject prog_14_method_49_code 1 (Option.some Jvm.ClassFile.FieldType.boolean) :: TW) { frames := 0, cells := 0, slots := 0, locals := 0 } (va_Pc [.int x0] (Rp D cA b ad (T, S, o))) (Qr D cA b ad (T, S, o) (some (.int (bI rr)))) 0 0 (Ab b) := by
  refine Ct_of (by decide) (Nat.le_of_ble_eq_true rfl) ?_
  intro p e R s m args below meth c ls Q H locs hR hQ hx hb hts hown hml hr hlk hC hX hS hl
  have hRf : R.frames = 0 := by rw [hR]
  have hRl : R.locals = 0 := by rw [hR]
  have hown : s.vm.findClass "TypeGuardModel" = some m.cls := hown
  have hl : lv_has ls 1 [(0, .int x0)] := hl
  rw [m_isObject] at h
  refine lv_iload_n hx hb d_m_isObject_0 rfl (lv_at hl 0 rfl) ?_
  refine lv_if_lt hx hb d_m_isObject_1 (tgt := 14) (by decide) (fun hc => ?_) (fun hc => ?_)
  · rw [if_pos hc] at h
    refine lv_iconst (v := 0) hx hb d_m_isObject_14 (by decide) ?_
    obtain rfl := Option.some.inj h
    exact rt_zf hQ hx hb hr hX hS hlk d_m_isObject_15
  · rw [if_neg hc] at h
    refine lv_iload_n hx hb d_m_isObject_4 rfl (lv_at hl 0 rfl) ?_
    refine lv_bipush (v := 10) hx hb d_m_isObject_5 (by decide) ?_
    refine lv_icmp_ge hx hb d_m_isObject_7 (tgt := 14) (by decide) (fun hc => ?_) (fun hc => ?_)
    · rw [if_pos hc] at h
      refine lv_iconst (v := 0) hx hb d_m_isObject_14 (by decide) ?_
      obtain rfl := Option.some.inj h
      exact rt_zf hQ hx hb hr hX hS hlk d_m_isObject_15
    · rw [if_neg hc] at h
      refine lv_iconst (v := 1) hx hb d_m_isObject_10 (by decide) ?_
      refine lv_goto hx hb d_m_isObject_11 (tgt := 15) (by decide) ?_
      obtain rfl := Option.some.inj h
      exact rt_zt hQ hx hb hr hX hS hlk d_m_isObject_15
