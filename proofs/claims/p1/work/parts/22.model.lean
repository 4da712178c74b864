abbrev y_m_targetsOf : MethodName := ({ cls := "TypeGuardModel", name := "targetsOf", desc := "(II)I" } : Jvm.MethodName)
theorem d_m_targetsOf_0 : decode prog_14_method_34_code 0 = .ok (.aload_n 0, 1) := by decide +kernel
theorem d_m_targetsOf_1 : decode prog_14_method_34_code 1 = .ok (.getfield 55, 3) := by decide +kernel
theorem d_m_targetsOf_4 : decode prog_14_method_34_code 4 = .ok (.iload_n 1, 1) := by decide +kernel
theorem d_m_targetsOf_5 : decode prog_14_method_34_code 5 = .ok (.iaload, 1) := by decide +kernel
theorem d_m_targetsOf_6 : decode prog_14_method_34_code 6 = .ok (.iload_n 2, 1) := by decide +kernel
theorem d_m_targetsOf_7 : decode prog_14_method_34_code 7 = .ok (.ishr, 1) := by decide +kernel
theorem d_m_targetsOf_8 : decode prog_14_method_34_code 8 = .ok (.iconst 1, 1) := by decide +kernel
theorem d_m_targetsOf_9 : decode prog_14_method_34_code 9 = .ok (.iand, 1) := by decide +kernel
theorem d_m_targetsOf_10 : decode prog_14_method_34_code 10 = .ok (.ifCond .ne 7, 3) := by decide +kernel
theorem d_m_targetsOf_13 : decode prog_14_method_34_code 13 = .ok (.iconst 0, 1) := by decide +kernel
theorem d_m_targetsOf_14 : decode prog_14_method_34_code 14 = .ok (.goto 24, 3) := by decide +kernel
theorem d_m_targetsOf_17 : decode prog_14_method_34_code 17 = .ok (.aload_n 0, 1) := by decide +kernel
theorem d_m_targetsOf_18 : decode prog_14_method_34_code 18 = .ok (.getfield 70, 3) := by decide +kernel
theorem d_m_targetsOf_21 : decode prog_14_method_34_code 21 = .ok (.iload_n 1, 1) := by decide +kernel
theorem d_m_targetsOf_22 : decode prog_14_method_34_code 22 = .ok (.baload, 1) := by decide +kernel
theorem d_m_targetsOf_23 : decode prog_14_method_34_code 23 = .ok (.ifCond .eq 9, 3) := by decide +kernel
theorem d_m_targetsOf_26 : decode prog_14_method_34_code 26 = .ok (.iconst 1, 1) := by decide +kernel
theorem d_m_targetsOf_27 : decode prog_14_method_34_code 27 = .ok (.iload_n 2, 1) := by decide +kernel
theorem d_m_targetsOf_28 : decode prog_14_method_34_code 28 = .ok (.ishl, 1) := by decide +kernel
theorem d_m_targetsOf_29 : decode prog_14_method_34_code 29 = .ok (.goto 9, 3) := by decide +kernel
theorem d_m_targetsOf_32 : decode prog_14_method_34_code 32 = .ok (.aload_n 0, 1) := by decide +kernel
theorem d_m_targetsOf_33 : decode prog_14_method_34_code 33 = .ok (.getfield 58, 3) := by decide +kernel
theorem d_m_targetsOf_36 : decode prog_14_method_34_code 36 = .ok (.iload_n 1, 1) := by decide +kernel
theorem d_m_targetsOf_37 : decode prog_14_method_34_code 37 = .ok (.iaload, 1) := by decide +kernel
theorem d_m_targetsOf_38 : decode prog_14_method_34_code 38 = .ok (.ireturn, 1) := by decide +kernel
def m_targetsOf (x1 : Int32) (x2 : Int32) (S : MS) : Option Int32 := (if inbd x1 48 = true then (if (((gI S 14 (txN x1)) >>> (x2 &&& 31)) &&& 1) = 0 then some 0 else (if inbd x1 48 = true then (if (gB S 19 (txN x1)) = true then some (1 <<< (x2 &&& 31)) else (if inbd x1 48 = true then some (gI S 15 (txN x1)) else none)) else none)) else none)
set_option maxHeartbeats 4000000 in
set_option maxRecDepth 100000 in
theorem M_m_targetsOf {l : Launch} {D : va_G} {cA : Nat → ClassId} {b : Nat} {ad : Nat → Nat} {x1 : Int32} {x2 : Int32} {S : MS} {T : CS} {o : Nat → Int64} {rr : Int32}  (h : m_targetsOf x1 x2 S = some rr) : Met l y_m_targetsOf (Cond.code y_m_targetsOf prog_14_method_34_code 3 (Option.some Jvm.ClassFile.FieldType.int) :: TW) { frames := 0, cells := 0, slots := 0, locals := 0 } (va_Pc [.ref (b + 262), .int x1, .int x2] (Rp D cA b ad (T, S, o))) (Qr D cA b ad (T, S, o) (some (.int rr))) 0 0 (Ab b) := by
  refine Ct_of (by decide) (Nat.le_of_ble_eq_true rfl) ?_
  intro p e R s m args below meth c ls Q H locs hR hQ hx hb hts hown hml hr hlk hC hX hS hl
  have hRf : R.frames = 0 := by rw [hR]
  have hRl : R.locals = 0 := by rw [hR]
  have hown : s.vm.findClass "TypeGuardModel" = some m.cls := hown
  have hl : lv_has ls 3 [(0, .ref (b + 262)), (1, .int x1), (2, .int x2)] := hl
  rw [m_targetsOf] at h
  refine lv_aload_n hx hb d_m_targetsOf_0 rfl (lv_at hl 0 rfl) ?_
  refine m_get_0_25 hx hb hts hown hC hX (by rfl) (hts _ t_1012) d_m_targetsOf_1 ?_
  refine lv_iload_n hx hb d_m_targetsOf_4 rfl (lv_at hl 1 rfl) ?_
  by_cases hg5 : inbd x1 48 = true
  rotate_left; · rw [if_neg hg5] at h; cases h
  rw [if_pos hg5] at h
  refine m_ald_1 (k := 14) hx hb hC hX (by rfl) hg5 d_m_targetsOf_5 ?_
  refine lv_iload_n hx hb d_m_targetsOf_6 rfl (lv_at hl 2 rfl) ?_
  refine lv_ishr hx hb d_m_targetsOf_7 ?_
  refine lv_iconst (v := 1) hx hb d_m_targetsOf_8 (by decide) ?_
  refine lv_iand hx hb d_m_targetsOf_9 ?_
  refine lv_if_ne hx hb d_m_targetsOf_10 (tgt := 17) (by decide) (fun hc => ?_) (fun hc => ?_)
  · rw [if_neg hc] at h
    refine lv_aload_n hx hb d_m_targetsOf_17 rfl (lv_at hl 0 rfl) ?_
    refine m_get_0_30 hx hb hts hown hC hX (by rfl) (hts _ t_1017) d_m_targetsOf_18 ?_
    refine lv_iload_n hx hb d_m_targetsOf_21 rfl (lv_at hl 1 rfl) ?_
    by_cases hg22 : inbd x1 48 = true
    rotate_left; · rw [if_neg hg22] at h; cases h
    rw [if_pos hg22] at h
    refine m_ald_3 (k := 19) hx hb hC hX (by rfl) hg22 d_m_targetsOf_22 ?_
    refine lz_ifeq hx hb d_m_targetsOf_23 (tgt := 32) (by decide) (fun hc => ?_) (fun hc => ?_)
    · rw [if_neg hc] at h
      refine lv_aload_n hx hb d_m_targetsOf_32 rfl (lv_at hl 0 rfl) ?_
      refine m_get_0_26 hx hb hts hown hC hX (by rfl) (hts _ t_1013) d_m_targetsOf_33 ?_
      refine lv_iload_n hx hb d_m_targetsOf_36 rfl (lv_at hl 1 rfl) ?_
      by_cases hg37 : inbd x1 48 = true
      rotate_left; · rw [if_neg hg37] at h; cases h
      rw [if_pos hg37] at h
      refine m_ald_1 (k := 15) hx hb hC hX (by rfl) hg37 d_m_targetsOf_37 ?_
      obtain rfl := Option.some.inj h
      exact rt_i hQ hx hb hr hX hS hlk d_m_targetsOf_38
    · rw [if_pos hc] at h
      refine lv_iconst (v := 1) hx hb d_m_targetsOf_26 (by decide) ?_
      refine lv_iload_n hx hb d_m_targetsOf_27 rfl (lv_at hl 2 rfl) ?_
      refine lv_ishl hx hb d_m_targetsOf_28 ?_
      refine lv_goto hx hb d_m_targetsOf_29 (tgt := 38) (by decide) ?_
      obtain rfl := Option.some.inj h
      exact rt_i hQ hx hb hr hX hS hlk d_m_targetsOf_38
  · rw [if_pos hc] at h
    refine lv_iconst (v := 0) hx hb d_m_targetsOf_13 (by decide) ?_
    refine lv_goto hx hb d_m_targetsOf_14 (tgt := 38) (by decide) ?_
    obtain rfl := Option.some.inj h
    exact rt_i hQ hx hb hr hX hS hlk d_m_targetsOf_38
abbrev y_m_meets : MethodName := ({ cls := "TypeGuardModel", name := "meets", desc := "(IIZ)Z" } : Jvm.MethodName)
theorem d_m_meets_0 : decode prog_14_method_35_code 0 = .ok (.iconst 0, 1) := by decide +kernel
theorem d_m_meets_1 : decode prog_14_method_35_code 1 = .ok (.istore 4, 2) := by decide +kernel
theorem d_m_meets_3 : decode prog_14_method_35_code 3 = .ok (.iconst 0, 1) := by decide +kernel
theorem d_m_meets_4 : decode prog_14_method_35_code 4 = .ok (.istore 5, 2) := by decide +kernel
theorem d_m_meets_6 : decode prog_14_method_35_code 6 = .ok (.iload 5, 2) := by decide +kernel
theorem d_m_meets_8 : decode prog_14_method_35_code 8 = .ok (.iconst 4, 1) := by decide +kernel
theorem d_m_meets_9 : decode prog_14_method_35_code 9 = .ok (.if_icmp .ge 84, 3) := by decide +kernel
theorem d_m_meets_12 : decode prog_14_method_35_code 12 = .ok (.aload_n 0, 1) := by decide +kernel
theorem d_m_meets_13 : decode prog_14_method_35_code 13 = .ok (.getfield 61, 3) := by decide +kernel
theorem d_m_meets_16 : decode prog_14_method_35_code 16 = .ok (.iload_n 1, 1) := by decide +kernel
theorem d_m_meets_17 : decode prog_14_method_35_code 17 = .ok (.iaload, 1) := by decide +kernel
theorem d_m_meets_18 : decode prog_14_method_35_code 18 = .ok (.aload_n 0, 1) := by decide +kernel
theorem d_m_meets_19 : decode prog_14_method_35_code 19 = .ok (.getfield 61, 3) := by decide +kernel
theorem d_m_meets_22 : decode prog_14_method_35_code 22 = .ok (.iload_n 2, 1) := by decide +kernel
theorem d_m_meets_23 : decode prog_14_method_35_code 23 = .ok (.iaload, 1) := by decide +kernel
theorem d_m_meets_24 : decode prog_14_method_35_code 24 = .ok (.iand, 1) := by decide +kernel
theorem d_m_meets_25 : decode prog_14_method_35_code 25 = .ok (.iconst 1, 1) := by decide +kernel
theorem d_m_meets_26 : decode prog_14_method_35_code 26 = .ok (.iload 5, 2) := by decide +kernel
theorem d_m_meets_28 : decode prog_14_method_35_code 28 = .ok (.ishl, 1) := by decide +kernel
theorem d_m_meets_29 : decode prog_14_method_35_code 29 = .ok (.iand, 1) := by decide +kernel
theorem d_m_meets_30 : decode prog_14_method_35_code 30 = .ok (.ifCond .eq 7, 3) := by decide +kernel
theorem d_m_meets_33 : decode prog_14_method_35_code 33 = .ok (.iconst 1, 1) := by decide +kernel
theorem d_m_meets_34 : decode prog_14_method_35_code 34 = .ok (.goto 4, 3) := by decide +kernel
theorem d_m_meets_37 : decode prog_14_method_35_code 37 = .ok (.iconst 0, 1) := by decide +kernel
theorem d_m_meets_38 : decode prog_14_method_35_code 38 = .ok (.istore 6, 2) := by decide +kernel
theorem d_m_meets_40 : decode prog_14_method_35_code 40 = .ok (.iload 4, 2) := by decide +kernel
theorem d_m_meets_42 : decode prog_14_method_35_code 42 = .ok (.ifCond .ne 38, 3) := by decide +kernel
theorem d_m_meets_45 : decode prog_14_method_35_code 45 = .ok (.iload 6, 2) := by decide +kernel
theorem d_m_meets_47 : decode prog_14_method_35_code 47 = .ok (.ifCond .eq 37, 3) := by decide +kernel
theorem d_m_meets_50 : decode prog_14_method_35_code 50 = .ok (.iload_n 3, 1) := by decide +kernel
theorem d_m_meets_51 : decode prog_14_method_35_code 51 = .ok (.ifCond .eq 29, 3) := by decide +kernel
theorem d_m_meets_54 : decode prog_14_method_35_code 54 = .ok (.aload_n 0, 1) := by decide +kernel
theorem d_m_meets_55 : decode prog_14_method_35_code 55 = .ok (.getfield 73, 3) := by decide +kernel
theorem d_m_meets_58 : decode prog_14_method_35_code 58 = .ok (.iconst 4, 1) := by decide +kernel
theorem d_m_meets_59 : decode prog_14_method_35_code 59 = .ok (.iload_n 1, 1) := by decide +kernel
theorem d_m_meets_60 : decode prog_14_method_35_code 60 = .ok (.imul, 1) := by decide +kernel
theorem d_m_meets_61 : decode prog_14_method_35_code 61 = .ok (.iload 5, 2) := by decide +kernel
theorem d_m_meets_63 : decode prog_14_method_35_code 63 = .ok (.iadd, 1) := by decide +kernel
theorem d_m_meets_64 : decode prog_14_method_35_code 64 = .ok (.iaload, 1) := by decide +kernel
theorem d_m_meets_65 : decode prog_14_method_35_code 65 = .ok (.aload_n 0, 1) := by decide +kernel
theorem d_m_meets_66 : decode prog_14_method_35_code 66 = .ok (.getfield 73, 3) := by decide +kernel
theorem d_m_meets_69 : decode prog_14_method_35_code 69 = .ok (.iconst 4, 1) := by decide +kernel
theorem d_m_meets_70 : decode prog_14_method_35_code 70 = .ok (.iload_n 2, 1) := by decide +kernel
theorem d_m_meets_71 : decode prog_14_method_35_code 71 = .ok (.imul, 1) := by decide +kernel
theorem d_m_meets_72 : decode prog_14_method_35_code 72 = .ok (.iload 5, 2) := by decide +kernel
theorem d_m_meets_74 : decode prog_14_method_35_code 74 = .ok (.iadd, 1) := by decide +kernel
theorem d_m_meets_75 : decode prog_14_method_35_code 75 = .ok (.iaload, 1) := by decide +kernel
theorem d_m_meets_76 : decode prog_14_method_35_code 76 = .ok (.iand, 1) := by decide +kernel
theorem d_m_meets_77 : decode prog_14_method_35_code 77 = .ok (.ifCond .eq 7, 3) := by decide +kernel
theorem d_m_meets_80 : decode prog_14_method_35_code 80 = .ok (.iconst 1, 1) := by decide +kernel
theorem d_m_meets_81 : decode prog_14_method_35_code 81 = .ok (.goto 4, 3) := by decide +kernel
theorem d_m_meets_84 : decode prog_14_method_35_code 84 = .ok (.iconst 0, 1) := by decide +kernel
theorem d_m_meets_85 : decode prog_14_method_35_code 85 = .ok (.istore 4, 2) := by decide +kernel
theorem d_m_meets_87 : decode prog_14_method_35_code 87 = .ok (.iinc 5 1, 3) := by decide +kernel
theorem d_m_meets_90 : decode prog_14_method_35_code 90 = .ok (.goto (-84), 3) := by decide +kernel
theorem d_m_meets_93 : decode prog_14_method_35_code 93 = .ok (.iconst 0, 1) := by decide +kernel
theorem d_m_meets_94 : decode prog_14_method_35_code 94 = .ok (.istore 5, 2) := by decide +kernel
theorem d_m_meets_96 : decode prog_14_method_35_code 96 = .ok (.iconst 0, 1) := by decide +kernel
theorem d_m_meets_97 : decode prog_14_method_35_code 97 = .ok (.istore 6, 2) := by decide +kernel
theorem d_m_meets_99 : decode prog_14_method_35_code 99 = .ok (.iload 6, 2) := by decide +kernel
theorem d_m_meets_101 : decode prog_14_method_35_code 101 = .ok (.bipush 12, 2) := by decide +kernel
theorem d_m_meets_103 : decode prog_14_method_35_code 103 = .ok (.if_icmp .ge 44, 3) := by decide +kernel
theorem d_m_meets_106 : decode prog_14_method_35_code 106 = .ok (.iload 4, 2) := by decide +kernel
theorem d_m_meets_108 : decode prog_14_method_35_code 108 = .ok (.ifCond .eq 39, 3) := by decide +kernel
theorem d_m_meets_111 : decode prog_14_method_35_code 111 = .ok (.iload 5, 2) := by decide +kernel
theorem d_m_meets_113 : decode prog_14_method_35_code 113 = .ok (.ifCond .ne 21, 3) := by decide +kernel
theorem d_m_meets_116 : decode prog_14_method_35_code 116 = .ok (.aload_n 0, 1) := by decide +kernel
theorem d_m_meets_117 : decode prog_14_method_35_code 117 = .ok (.iload_n 1, 1) := by decide +kernel
theorem d_m_meets_118 : decode prog_14_method_35_code 118 = .ok (.iload 6, 2) := by decide +kernel
theorem d_m_meets_120 : decode prog_14_method_35_code 120 = .ok (.invokevirtual 263, 3) := by decide +kernel
theorem d_m_meets_123 : decode prog_14_method_35_code 123 = .ok (.aload_n 0, 1) := by decide +kernel
theorem d_m_meets_124 : decode prog_14_method_35_code 124 = .ok (.iload_n 2, 1) := by decide +kernel
theorem d_m_meets_125 : decode prog_14_method_35_code 125 = .ok (.iload 6, 2) := by decide +kernel
theorem d_m_meets_127 : decode prog_14_method_35_code 127 = .ok (.invokevirtual 263, 3) := by decide +kernel
theorem d_m_meets_130 : decode prog_14_method_35_code 130 = .ok (.iand, 1) := by decide +kernel
theorem d_m_meets_131 : decode prog_14_method_35_code 131 = .ok (.ifCond .eq 7, 3) := by decide +kernel
theorem d_m_meets_134 : decode prog_14_method_35_code 134 = .ok (.iconst 1, 1) := by decide +kernel
theorem d_m_meets_135 : decode prog_14_method_35_code 135 = .ok (.goto 4, 3) := by decide +kernel
theorem d_m_meets_138 : decode prog_14_method_35_code 138 = .ok (.iconst 0, 1) := by decide +kernel
theorem d_m_meets_139 : decode prog_14_method_35_code 139 = .ok (.istore 5, 2) := by decide +kernel
theorem d_m_meets_141 : decode prog_14_method_35_code 141 = .ok (.iinc 6 1, 3) := by decide +kernel
theorem d_m_meets_144 : decode prog_14_method_35_code 144 = .ok (.goto (-45), 3) := by decide +kernel
theorem d_m_meets_147 : decode prog_14_method_35_code 147 = .ok (.iload 5, 2) := by decide +kernel
theorem d_m_meets_149 : decode prog_14_method_35_code 149 = .ok (.ireturn, 1) := by decide +kernel
def m_meets_L99 (v1_99 : Int32) (v2_99 : Int32) (v4_99 : Bool) (S_99 : MS) : Nat → Bool → Int32 → Option Bool
  | 0, _, _ => none
  | n + 1, v5_99, v6_99 => (if 12 ≤ v6_99 then some v5_99 else (if v4_99 = true then (if v5_99 = true then (bd ((v6_99 + 1)) fun a141 => (m_meets_L99 v1_99 v2_99 v4_99 S_99 n) true a141) else ((m_targetsOf v1_99 v6_99 S_99).bind fun q120 => ((m_targetsOf v2_99 v6_99 S_99).bind fun q127 => (if (q120 &&& q127) = 0 then (bd ((v6_99 + 1)) fun a141 => (m_meets_L99 v1_99 v2_99 v4_99 S_99 n) false a141) else (bd ((v6_99 + 1)) fun a141 => (m_meets_L99 v1_99 v2_99 v4_99 S_99 n) true a141))))) else some v5_99))
def m_meets_J38 (kO6 : Bool → Int32 → Option Bool) (v1_38 : Int32) (v2_38 : Int32) (v3_38 : Bool) (v4_38 : Bool) (v5_38 : Int32) (s0_38 : Bool) (S_38 : MS) : Option Bool := (if v4_38 = true then (bd ((v5_38 + 1)) fun a87 => kO6 true a87) else (if s0_38 = true then (if v3_38 = true then (if inbd ((4 * v1_38) + v5_38) 192 = true then (if inbd ((4 * v2_38) + v5_38) 192 = true then (if ((gI S_38 20 (txN ((4 * v1_38) + v5_38))) &&& (gI S_38 20 (txN ((4 * v2_38) + v5_38)))) = 0 then (bd ((v5_38 + 1)) fun a87 => kO6 false a87) else (bd ((v5_38 + 1)) fun a87 => kO6 true a87)) else none) else none) else (bd ((v5_38 + 1)) fun a87 => kO6 true a87)) else (bd ((v5_38 + 1)) fun a87 => kO6 false a87)))
def m_meets_L6 (v1_6 : Int32) (v2_6 : Int32) (v3_6 : Bool) (S_6 : MS) : Nat → Bool → Int32 → Option Bool
  | 0, _, _ => none
  | n + 1, v4_6, v5_6 => (if 4 ≤ v5_6 then m_meets_L99 v1_6 v2_6 v4_6 S_6 600 false 0 else (if inbd v1_6 48 = true then (if inbd v2_6 48 = true then (if (((gI S_6 16 (txN v1_6)) &&& (gI S_6 16 (txN v2_6))) &&& (1 <<< (v5_6 &&& 31))) = 0 then m_meets_J38 (m_meets_L6 v1_6 v2_6 v3_6 S_6 n) v1_6 v2_6 v3_6 v4_6 v5_6 false S_6 else m_meets_J38 (m_meets_L6 v1_6 v2_6 v3_6 S_6 n) v1_6 v2_6 v3_6 v4_6 v5_6 true S_6) else none) else none))
def m_meets (x1 : Int32) (x2 : Int32) (x3 : Bool) (S : MS) : Option Bool := m_meets_L6 x1 x2 x3 S 600 false 0
set_option maxHeartbeats 4000000 in
set_option maxRecDepth 100000 in
theorem M_m_meets {l : Launch} {D : va_G} {cA : Nat → ClassId} {b : Nat} {ad : Nat → Nat} {x1 : Int32} {x2 : Int32} {x3 : Bool} {S : MS} {T : CS} {o : Nat → Int64} {rr : Bool}  (h : m_meets x1 x2 x3 S = some rr) : Met l y_m_meets (Cond.code y_m_meets prog_14_method_35_code 7 (Option.some Jvm.ClassFile.FieldType.boolean) :: TW) { frames := 1, cells := 0, slots := 0, locals := 22 } (va_Pc [.ref (b + 262), .int x1, .int x2, .int (bI x3)] (Rp D cA b ad (T, S, o))) (Qr D cA b ad (T, S, o) (some (.int (bI rr)))) 0 0 (Ab b) := by
  refine Ct_of (by decide) (Nat.le_of_ble_eq_true rfl) ?_
  intro p e R s m args below meth c ls Q H locs hR hQ hx hb hts hown hml hr hlk hC hX hS hl
  have hRf : R.frames = 1 := by rw [hR]
  have hRl : R.locals = 22 := by rw [hR]
  have hown : s.vm.findClass "TypeGuardModel" = some m.cls := hown
  have hl : lv_has ls 7 [(0, .ref (b + 262)), (1, .int x1), (2, .int x2), (3, .int (bI x3))] := hl
  rw [m_meets] at h
  refine lv_iconst (v := 0) hx hb d_m_meets_0 (by decide) ?_
  refine lv_istore (lv' := [(4, .int (bI false)), (0, .ref (b + 262)), (1, .int x1), (2, .int x2), (3, .int (bI x3))]) hx hb d_m_meets_1 hl (by decide) rfl (fun ls hl => ?_)
  refine lv_iconst (v := 0) hx hb d_m_meets_3 (by decide) ?_
  refine lv_istore (lv' := [(5, .int 0), (4, .int (bI false)), (0, .ref (b + 262)), (1, .int x1), (2, .int x2), (3, .int (bI x3))]) hx hb d_m_meets_4 hl (by decide) rfl (fun ls hl => ?_)
  have L6 : ∀ (n6 : Nat) (v4_6 : Bool) (v5_6 : Int32) (H : Heap) (locs : List Loc) (ls : Array Slot), hp D cA b ad (T, S, o) H → va_S (Ab b) s.heap H locs → lv_has ls 7 [(0, .ref (b + 262)), (1, .int x1), (2, .int x2), (3, .int (bI x3)), (4, .int (bI v4_6)), (5, .int v5_6)] → m_meets_L6 x1 x2 x3 S n6 v4_6 v5_6 = some rr → W p l e R s m args below meth c H locs 0 0 Q (F0 m 6 ls []) := by
    intro n6; induction n6 with
    | zero => intro v4_6 v5_6 H locs ls  hX hS hl h; rw [m_meets_L6] at h; cases h
    | succ n6 ih6 =>
      intro v4_6 v5_6 H locs ls  hX hS hl h
      rw [m_meets_L6] at h
      refine lv_iload hx hb d_m_meets_6 (lv_at hl 5 rfl) ?_
      refine lv_iconst (v := 4) hx hb d_m_meets_8 (by decide) ?_
      refine lv_icmp_ge hx hb d_m_meets_9 (tgt := 93) (by decide) (fun hc => ?_) (fun hc => ?_)
      · rw [if_pos hc] at h
        refine lv_iconst (v := 0) hx hb d_m_meets_93 (by decide) ?_
        refine lv_istore (lv' := [(5, .int (bI false)), (0, .ref (b + 262)), (1, .int x1), (2, .int x2), (3, .int (bI x3)), (4, .int (bI v4_6))]) hx hb d_m_meets_94 hl (by decide) rfl (fun ls hl => ?_)
        refine lv_iconst (v := 0) hx hb d_m_meets_96 (by decide) ?_
        refine lv_istore (lv' := [(6, .int 0), (5, .int (bI false)), (0, .ref (b + 262)), (1, .int x1), (2, .int x2), (3, .int (bI x3)), (4, .int (bI v4_6))]) hx hb d_m_meets_97 hl (by decide) rfl (fun ls hl => ?_)
        have L99 : ∀ (n99 : Nat) (v5_99 : Bool) (v6_99 : Int32) (H : Heap) (locs : List Loc) (ls : Array Slot), hp D cA b ad (T, S, o) H → va_S (Ab b) s.heap H locs → lv_has ls 7 [(0, .ref (b + 262)), (1, .int x1), (2, .int x2), (4, .int (bI v4_6)), (5, .int (bI v5_99)), (6, .int v6_99)] → m_meets_L99 x1 x2 v4_6 S n99 v5_99 v6_99 = some rr → W p l e R s m args below meth c H locs 0 0 Q (F0 m 99 ls []) := by
          intro n99; induction n99 with
          | zero => intro v5_99 v6_99 H locs ls  hX hS hl h; rw [m_meets_L99] at h; cases h
          | succ n99 ih99 =>
            intro v5_99 v6_99 H locs ls  hX hS hl h
            rw [m_meets_L99] at h
            refine lv_iload hx hb d_m_meets_99 (lv_at hl 5 rfl) ?_
            refine lv_bipush (v := 12) hx hb d_m_meets_101 (by decide) ?_
            refine lv_icmp_ge hx hb d_m_meets_103 (tgt := 147) (by decide) (fun hc => ?_) (fun hc => ?_)
            · rw [if_pos hc] at h
              refine lv_iload hx hb d_m_meets_147 (lv_at hl 4 rfl) ?_
              obtain rfl := Option.some.inj h
              exact rt_z hQ hx hb hr hX hS hlk d_m_meets_149
            · rw [if_neg hc] at h
              refine lv_iload hx hb d_m_meets_106 (lv_at hl 3 rfl) ?_
              refine lz_ifeq hx hb d_m_meets_108 (tgt := 147) (by decide) (fun hc => ?_) (fun hc => ?_)
              · rw [if_neg hc] at h
                refine lv_iload hx hb d_m_meets_147 (lv_at hl 4 rfl) ?_
                obtain rfl := Option.some.inj h
                exact rt_z hQ hx hb hr hX hS hlk d_m_meets_149
              · rw [if_pos hc] at h
                refine lv_iload hx hb d_m_meets_111 (lv_at hl 4 rfl) ?_
                refine lz_ifne hx hb d_m_meets_113 (tgt := 134) (by decide) (fun hc => ?_) (fun hc => ?_)
                · rw [if_pos hc] at h
                  refine lv_iconst (v := 1) hx hb d_m_meets_134 (by decide) ?_
                  refine lv_goto hx hb d_m_meets_135 (tgt := 139) (by decide) ?_
                  refine lv_istore (lv' := [(5, .int (bI true)), (0, .ref (b + 262)), (1, .int x1), (2, .int x2), (4, .int (bI v4_6)), (6, .int v6_99)]) hx hb d_m_meets_139 hl (by decide) rfl (fun ls hl => ?_)
                  obtain ⟨a141, e141, h⟩ := bd_some h
                  refine lv_iinc (v := a141) (lv' := [(6, .int a141), (5, .int (bI true)), (0, .ref (b + 262)), (1, .int x1), (2, .int x2), (4, .int (bI v4_6))]) hx hb d_m_meets_141 hl (k := 5) rfl e141.symm (by decide) rfl (fun ls hl => ?_)
                  refine lv_goto hx hb d_m_meets_144 (tgt := 99) (by decide) ?_
                  exact ih99 true a141 H locs ls  hX hS (lv_sub hl [2, 3, 4, 5, 1, 0] rfl) h
                · rw [if_neg hc] at h
                  refine lv_aload_n hx hb d_m_meets_116 rfl (lv_at hl 0 rfl) ?_
                  refine lv_iload_n hx hb d_m_meets_117 rfl (lv_at hl 1 rfl) ?_
                  refine lv_iload hx hb d_m_meets_118 (lv_at hl 5 rfl) ?_
                  obtain ⟨q120, hc120, h⟩ := Option.bind_eq_some_iff.mp h
                  refine ck_V (As := [.int x1, .int v6_99]) (rest := []) (st1 := [.int q120]) (M_m_targetsOf  hc120) t_1284 t_1286 p_65 t_1287 t_13 hx hb hts hown hC hX hS (hrc_m0 hC hX (by rfl)) hml hl.1 ⟨by rw [hRf]; decide, by rw [hRl]; decide⟩ ⟨rfl, rfl⟩ (n := 2) (by decide +kernel) rfl rfl rfl (lv_room (Nat.le_of_ble_eq_true rfl)) d_m_meets_120 (fun H locs hX hS => ?_)
                  refine lv_aload_n hx hb d_m_meets_123 rfl (lv_at hl 0 rfl) ?_
                  refine lv_iload_n hx hb d_m_meets_124 rfl (lv_at hl 2 rfl) ?_
                  refine lv_iload hx hb d_m_meets_125 (lv_at hl 5 rfl) ?_
                  obtain ⟨q127, hc127, h⟩ := Option.bind_eq_some_iff.mp h
                  refine ck_V (As := [.int x2, .int v6_99]) (rest := [.int q120]) (st1 := [.int q127, .int q120]) (M_m_targetsOf  hc127) t_1284 t_1286 p_65 t_1287 t_13 hx hb hts hown hC hX hS (hrc_m0 hC hX (by rfl)) hml hl.1 ⟨by rw [hRf]; decide, by rw [hRl]; decide⟩ ⟨rfl, rfl⟩ (n := 2) (by decide +kernel) rfl rfl rfl (lv_room (Nat.le_of_ble_eq_true rfl)) d_m_meets_127 (fun H locs hX hS => ?_)
                  refine lv_iand hx hb d_m_meets_130 ?_
                  refine lv_if_eq hx hb d_m_meets_131 (tgt := 138) (by decide) (fun hc => ?_) (fun hc => ?_)
                  · rw [if_pos hc] at h
                    refine lv_iconst (v := 0) hx hb d_m_meets_138 (by decide) ?_
                    refine lv_istore (lv' := [(5, .int (bI false)), (0, .ref (b + 262)), (1, .int x1), (2, .int x2), (4, .int (bI v4_6)), (6, .int v6_99)]) hx hb d_m_meets_139 hl (by decide) rfl (fun ls hl => ?_)
                    obtain ⟨a141, e141, h⟩ := bd_some h
                    refine lv_iinc (v := a141) (lv' := [(6, .int a141), (5, .int (bI false)), (0, .ref (b + 262)), (1, .int x1), (2, .int x2), (4, .int (bI v4_6))]) hx hb d_m_meets_141 hl (k := 5) rfl e141.symm (by decide) rfl (fun ls hl => ?_)
                    refine lv_goto hx hb d_m_meets_144 (tgt := 99) (by decide) ?_
                    exact ih99 false a141 H locs ls  hX hS (lv_sub hl [2, 3, 4, 5, 1, 0] rfl) h
                  · rw [if_neg hc] at h
                    refine lv_iconst (v := 1) hx hb d_m_meets_134 (by decide) ?_
                    refine lv_goto hx hb d_m_meets_135 (tgt := 139) (by decide) ?_
                    refine lv_istore (lv' := [(5, .int (bI true)), (0, .ref (b + 262)), (1, .int x1), (2, .int x2), (4, .int (bI v4_6)), (6, .int v6_99)]) hx hb d_m_meets_139 hl (by decide) rfl (fun ls hl => ?_)
                    obtain ⟨a141, e141, h⟩ := bd_some h
                    refine lv_iinc (v := a141) (lv' := [(6, .int a141), (5, .int (bI true)), (0, .ref (b + 262)), (1, .int x1), (2, .int x2), (4, .int (bI v4_6))]) hx hb d_m_meets_141 hl (k := 5) rfl e141.symm (by decide) rfl (fun ls hl => ?_)
                    refine lv_goto hx hb d_m_meets_144 (tgt := 99) (by decide) ?_
                    exact ih99 true a141 H locs ls  hX hS (lv_sub hl [2, 3, 4, 5, 1, 0] rfl) h
        exact L99 600 false 0 H locs ls  hX hS (lv_sub hl [2, 3, 4, 6, 1, 0] rfl) h
      · rw [if_neg hc] at h
        refine lv_aload_n hx hb d_m_meets_12 rfl (lv_at hl 0 rfl) ?_
        refine m_get_0_27 hx hb hts hown hC hX (by rfl) (hts _ t_1014) d_m_meets_13 ?_
        refine lv_iload_n hx hb d_m_meets_16 rfl (lv_at hl 1 rfl) ?_
        by_cases hg17 : inbd x1 48 = true
        rotate_left; · rw [if_neg hg17] at h; cases h
        rw [if_pos hg17] at h
        refine m_ald_1 (k := 16) hx hb hC hX (by rfl) hg17 d_m_meets_17 ?_
        refine lv_aload_n hx hb d_m_meets_18 rfl (lv_at hl 0 rfl) ?_
        refine m_get_0_27 hx hb hts hown hC hX (by rfl) (hts _ t_1014) d_m_meets_19 ?_
        refine lv_iload_n hx hb d_m_meets_22 rfl (lv_at hl 2 rfl) ?_
        by_cases hg23 : inbd x2 48 = true
        rotate_left; · rw [if_neg hg23] at h; cases h
        rw [if_pos hg23] at h
        refine m_ald_1 (k := 16) hx hb hC hX (by rfl) hg23 d_m_meets_23 ?_
        refine lv_iand hx hb d_m_meets_24 ?_
        refine lv_iconst (v := 1) hx hb d_m_meets_25 (by decide) ?_
        refine lv_iload hx hb d_m_meets_26 (lv_at hl 5 rfl) ?_
        refine lv_ishl hx hb d_m_meets_28 ?_
        refine lv_iand hx hb d_m_meets_29 ?_
        have J38 : ∀ (s0_38 : Bool) (H : Heap) (locs : List Loc) (ls : Array Slot), hp D cA b ad (T, S, o) H → va_S (Ab b) s.heap H locs → lv_has ls 7 [(0, .ref (b + 262)), (1, .int x1), (2, .int x2), (3, .int (bI x3)), (4, .int (bI v4_6)), (5, .int v5_6)] → m_meets_J38 (m_meets_L6 x1 x2 x3 S n6) x1 x2 x3 v4_6 v5_6 s0_38 S = some rr → W p l e R s m args below meth c H locs 0 0 Q (F0 m 38 ls [.int (bI s0_38)]) := by
          intro s0_38 H locs ls  hX hS hl h
          rw [m_meets_J38] at h
          refine lv_istore (lv' := [(6, .int (bI s0_38)), (0, .ref (b + 262)), (1, .int x1), (2, .int x2), (3, .int (bI x3)), (4, .int (bI v4_6)), (5, .int v5_6)]) hx hb d_m_meets_38 hl (by decide) rfl (fun ls hl => ?_)
          refine lv_iload hx hb d_m_meets_40 (lv_at hl 5 rfl) ?_
          refine lz_ifne hx hb d_m_meets_42 (tgt := 80) (by decide) (fun hc => ?_) (fun hc => ?_)
          · rw [if_pos hc] at h
            refine lv_iconst (v := 1) hx hb d_m_meets_80 (by decide) ?_
            refine lv_goto hx hb d_m_meets_81 (tgt := 85) (by decide) ?_
            refine lv_istore (lv' := [(4, .int (bI true)), (6, .int (bI s0_38)), (0, .ref (b + 262)), (1, .int x1), (2, .int x2), (3, .int (bI x3)), (5, .int v5_6)]) hx hb d_m_meets_85 hl (by decide) rfl (fun ls hl => ?_)
            obtain ⟨a87, e87, h⟩ := bd_some h
            refine lv_iinc (v := a87) (lv' := [(5, .int a87), (4, .int (bI true)), (6, .int (bI s0_38)), (0, .ref (b + 262)), (1, .int x1), (2, .int x2), (3, .int (bI x3))]) hx hb d_m_meets_87 hl (k := 6) rfl e87.symm (by decide) rfl (fun ls hl => ?_)
            refine lv_goto hx hb d_m_meets_90 (tgt := 6) (by decide) ?_
            exact ih6 true a87 H locs ls  hX hS (lv_sub hl [3, 4, 5, 6, 1, 0] rfl) h
          · rw [if_neg hc] at h
            refine lv_iload hx hb d_m_meets_45 (lv_at hl 0 rfl) ?_
            refine lz_ifeq hx hb d_m_meets_47 (tgt := 84) (by decide) (fun hc => ?_) (fun hc => ?_)
            · rw [if_neg hc] at h
              refine lv_iconst (v := 0) hx hb d_m_meets_84 (by decide) ?_
              refine lv_istore (lv' := [(4, .int (bI false)), (6, .int (bI s0_38)), (0, .ref (b + 262)), (1, .int x1), (2, .int x2), (3, .int (bI x3)), (5, .int v5_6)]) hx hb d_m_meets_85 hl (by decide) rfl (fun ls hl => ?_)
              obtain ⟨a87, e87, h⟩ := bd_some h
              refine lv_iinc (v := a87) (lv' := [(5, .int a87), (4, .int (bI false)), (6, .int (bI s0_38)), (0, .ref (b + 262)), (1, .int x1), (2, .int x2), (3, .int (bI x3))]) hx hb d_m_meets_87 hl (k := 6) rfl e87.symm (by decide) rfl (fun ls hl => ?_)
              refine lv_goto hx hb d_m_meets_90 (tgt := 6) (by decide) ?_
              exact ih6 false a87 H locs ls  hX hS (lv_sub hl [3, 4, 5, 6, 1, 0] rfl) h
            · rw [if_pos hc] at h
              refine lv_iload_n hx hb d_m_meets_50 rfl (lv_at hl 4 rfl) ?_
              refine lz_ifeq hx hb d_m_meets_51 (tgt := 80) (by decide) (fun hc => ?_) (fun hc => ?_)
              · rw [if_neg hc] at h
                refine lv_iconst (v := 1) hx hb d_m_meets_80 (by decide) ?_
                refine lv_goto hx hb d_m_meets_81 (tgt := 85) (by decide) ?_
                refine lv_istore (lv' := [(4, .int (bI true)), (6, .int (bI s0_38)), (0, .ref (b + 262)), (1, .int x1), (2, .int x2), (3, .int (bI x3)), (5, .int v5_6)]) hx hb d_m_meets_85 hl (by decide) rfl (fun ls hl => ?_)
                obtain ⟨a87, e87, h⟩ := bd_some h
                refine lv_iinc (v := a87) (lv' := [(5, .int a87), (4, .int (bI true)), (6, .int (bI s0_38)), (0, .ref (b + 262)), (1, .int x1), (2, .int x2), (3, .int (bI x3))]) hx hb d_m_meets_87 hl (k := 6) rfl e87.symm (by decide) rfl (fun ls hl => ?_)
                refine lv_goto hx hb d_m_meets_90 (tgt := 6) (by decide) ?_
                exact ih6 true a87 H locs ls  hX hS (lv_sub hl [3, 4, 5, 6, 1, 0] rfl) h
              · rw [if_pos hc] at h
                refine lv_aload_n hx hb d_m_meets_54 rfl (lv_at hl 1 rfl) ?_
                refine m_get_0_31 hx hb hts hown hC hX (by rfl) (hts _ t_1018) d_m_meets_55 ?_
                refine lv_iconst (v := 4) hx hb d_m_meets_58 (by decide) ?_
                refine lv_iload_n hx hb d_m_meets_59 rfl (lv_at hl 2 rfl) ?_
                refine lv_imul hx hb d_m_meets_60 ?_
                refine lv_iload hx hb d_m_meets_61 (lv_at hl 6 rfl) ?_
                refine lv_iadd hx hb d_m_meets_63 ?_
                by_cases hg64 : inbd ((4 * x1) + v5_6) 192 = true
                rotate_left; · rw [if_neg hg64] at h; cases h
                rw [if_pos hg64] at h
                refine m_ald_1 (k := 20) hx hb hC hX (by rfl) hg64 d_m_meets_64 ?_
                refine lv_aload_n hx hb d_m_meets_65 rfl (lv_at hl 1 rfl) ?_
                refine m_get_0_31 hx hb hts hown hC hX (by rfl) (hts _ t_1018) d_m_meets_66 ?_
                refine lv_iconst (v := 4) hx hb d_m_meets_69 (by decide) ?_
                refine lv_iload_n hx hb d_m_meets_70 rfl (lv_at hl 3 rfl) ?_
                refine lv_imul hx hb d_m_meets_71 ?_
                refine lv_iload hx hb d_m_meets_72 (lv_at hl 6 rfl) ?_
                refine lv_iadd hx hb d_m_meets_74 ?_
                by_cases hg75 : inbd ((4 * x2) + v5_6) 192 = true
                rotate_left; · rw [if_neg hg75] at h; cases h
                rw [if_pos hg75] at h
                refine m_ald_1 (k := 20) hx hb hC hX (by rfl) hg75 d_m_meets_75 ?_
                refine lv_iand hx hb d_m_meets_76 ?_
                refine lv_if_eq hx hb d_m_meets_77 (tgt := 84) (by decide) (fun hc => ?_) (fun hc => ?_)
                · rw [if_pos hc] at h
                  refine lv_iconst (v := 0) hx hb d_m_meets_84 (by decide) ?_
                  refine lv_istore (lv' := [(4, .int (bI false)), (6, .int (bI s0_38)), (0, .ref (b + 262)), (1, .int x1), (2, .int x2), (3, .int (bI x3)), (5, .int v5_6)]) hx hb d_m_meets_85 hl (by decide) rfl (fun ls hl => ?_)
                  obtain ⟨a87, e87, h⟩ := bd_some h
                  refine lv_iinc (v := a87) (lv' := [(5, .int a87), (4, .int (bI false)), (6, .int (bI s0_38)), (0, .ref (b + 262)), (1, .int x1), (2, .int x2), (3, .int (bI x3))]) hx hb d_m_meets_87 hl (k := 6) rfl e87.symm (by decide) rfl (fun ls hl => ?_)
                  refine lv_goto hx hb d_m_meets_90 (tgt := 6) (by decide) ?_
                  exact ih6 false a87 H locs ls  hX hS (lv_sub hl [3, 4, 5, 6, 1, 0] rfl) h
                · rw [if_neg hc] at h
                  refine lv_iconst (v := 1) hx hb d_m_meets_80 (by decide) ?_
                  refine lv_goto hx hb d_m_meets_81 (tgt := 85) (by decide) ?_
                  refine lv_istore (lv' := [(4, .int (bI true)), (6, .int (bI s0_38)), (0, .ref (b + 262)), (1, .int x1), (2, .int x2), (3, .int (bI x3)), (5, .int v5_6)]) hx hb d_m_meets_85 hl (by decide) rfl (fun ls hl => ?_)
                  obtain ⟨a87, e87, h⟩ := bd_some h
                  refine lv_iinc (v := a87) (lv' := [(5, .int a87), (4, .int (bI true)), (6, .int (bI s0_38)), (0, .ref (b + 262)), (1, .int x1), (2, .int x2), (3, .int (bI x3))]) hx hb d_m_meets_87 hl (k := 6) rfl e87.symm (by decide) rfl (fun ls hl => ?_)
                  refine lv_goto hx hb d_m_meets_90 (tgt := 6) (by decide) ?_
                  exact ih6 true a87 H locs ls  hX hS (lv_sub hl [3, 4, 5, 6, 1, 0] rfl) h
        refine lv_if_eq hx hb d_m_meets_30 (tgt := 37) (by decide) (fun hc => ?_) (fun hc => ?_)
        · rw [if_pos hc] at h
          refine lv_iconst (v := 0) hx hb d_m_meets_37 (by decide) ?_
          exact J38 false H locs ls  hX hS (lv_sub hl [0, 1, 2, 3, 4, 5] rfl) h
        · rw [if_neg hc] at h
          refine lv_iconst (v := 1) hx hb d_m_meets_33 (by decide) ?_
          refine lv_goto hx hb d_m_meets_34 (tgt := 38) (by decide) ?_
          exact J38 true H locs ls  hX hS (lv_sub hl [0, 1, 2, 3, 4, 5] rfl) h
  exact L6 600 false 0 H locs ls  hX hS (lv_sub hl [2, 3, 4, 5, 1, 0] rfl) h
abbrev y_m_lookOver : MethodName := ({ cls := "TypeGuardModel", name := "lookOver", desc := "()V" } : Jvm.MethodName)
theorem d_m_lookOver_0 : decode prog_14_method_36_code 0 = .ok (.aload_n 0, 1) := by decide +kernel
theorem d_m_lookOver_1 : decode prog_14_method_36_code 1 = .ok (.invokevirtual 189, 3) := by decide +kernel
theorem d_m_lookOver_4 : decode prog_14_method_36_code 4 = .ok (.istore_n 1, 1) := by decide +kernel
theorem d_m_lookOver_5 : decode prog_14_method_36_code 5 = .ok (.bipush 24, 2) := by decide +kernel
theorem d_m_lookOver_7 : decode prog_14_method_36_code 7 = .ok (.iload_n 1, 1) := by decide +kernel
theorem d_m_lookOver_8 : decode prog_14_method_36_code 8 = .ok (.imul, 1) := by decide +kernel
theorem d_m_lookOver_9 : decode prog_14_method_36_code 9 = .ok (.aload_n 0, 1) := by decide +kernel
theorem d_m_lookOver_10 : decode prog_14_method_36_code 10 = .ok (.getfield 17, 3) := by decide +kernel
theorem d_m_lookOver_13 : decode prog_14_method_36_code 13 = .ok (.iconst 5, 1) := by decide +kernel
theorem d_m_lookOver_14 : decode prog_14_method_36_code 14 = .ok (.iload_n 1, 1) := by decide +kernel
theorem d_m_lookOver_15 : decode prog_14_method_36_code 15 = .ok (.imul, 1) := by decide +kernel
theorem d_m_lookOver_16 : decode prog_14_method_36_code 16 = .ok (.iconst 4, 1) := by decide +kernel
theorem d_m_lookOver_17 : decode prog_14_method_36_code 17 = .ok (.iadd, 1) := by decide +kernel
theorem d_m_lookOver_18 : decode prog_14_method_36_code 18 = .ok (.iaload, 1) := by decide +kernel
theorem d_m_lookOver_19 : decode prog_14_method_36_code 19 = .ok (.iadd, 1) := by decide +kernel
theorem d_m_lookOver_20 : decode prog_14_method_36_code 20 = .ok (.istore_n 2, 1) := by decide +kernel
theorem d_m_lookOver_21 : decode prog_14_method_36_code 21 = .ok (.bipush 24, 2) := by decide +kernel
theorem d_m_lookOver_23 : decode prog_14_method_36_code 23 = .ok (.iload_n 1, 1) := by decide +kernel
theorem d_m_lookOver_24 : decode prog_14_method_36_code 24 = .ok (.imul, 1) := by decide +kernel
theorem d_m_lookOver_25 : decode prog_14_method_36_code 25 = .ok (.istore_n 3, 1) := by decide +kernel
theorem d_m_lookOver_26 : decode prog_14_method_36_code 26 = .ok (.iload_n 3, 1) := by decide +kernel
theorem d_m_lookOver_27 : decode prog_14_method_36_code 27 = .ok (.iload_n 2, 1) := by decide +kernel
theorem d_m_lookOver_28 : decode prog_14_method_36_code 28 = .ok (.if_icmp .ge 52, 3) := by decide +kernel
theorem d_m_lookOver_31 : decode prog_14_method_36_code 31 = .ok (.aload_n 0, 1) := by decide +kernel
theorem d_m_lookOver_32 : decode prog_14_method_36_code 32 = .ok (.getfield 55, 3) := by decide +kernel
theorem d_m_lookOver_35 : decode prog_14_method_36_code 35 = .ok (.iload_n 3, 1) := by decide +kernel
theorem d_m_lookOver_36 : decode prog_14_method_36_code 36 = .ok (.aload_n 0, 1) := by decide +kernel
theorem d_m_lookOver_37 : decode prog_14_method_36_code 37 = .ok (.iload_n 1, 1) := by decide +kernel
theorem d_m_lookOver_38 : decode prog_14_method_36_code 38 = .ok (.iconst 2, 1) := by decide +kernel
theorem d_m_lookOver_39 : decode prog_14_method_36_code 39 = .ok (.iload_n 3, 1) := by decide +kernel
theorem d_m_lookOver_40 : decode prog_14_method_36_code 40 = .ok (.imul, 1) := by decide +kernel
theorem d_m_lookOver_41 : decode prog_14_method_36_code 41 = .ok (.invokevirtual 266, 3) := by decide +kernel
theorem d_m_lookOver_44 : decode prog_14_method_36_code 44 = .ok (.iastore, 1) := by decide +kernel
theorem d_m_lookOver_45 : decode prog_14_method_36_code 45 = .ok (.aload_n 0, 1) := by decide +kernel
theorem d_m_lookOver_46 : decode prog_14_method_36_code 46 = .ok (.getfield 58, 3) := by decide +kernel
theorem d_m_lookOver_49 : decode prog_14_method_36_code 49 = .ok (.iload_n 3, 1) := by decide +kernel
theorem d_m_lookOver_50 : decode prog_14_method_36_code 50 = .ok (.aload_n 0, 1) := by decide +kernel
theorem d_m_lookOver_51 : decode prog_14_method_36_code 51 = .ok (.getfield 70, 3) := by decide +kernel
theorem d_m_lookOver_54 : decode prog_14_method_36_code 54 = .ok (.iload_n 3, 1) := by decide +kernel
theorem d_m_lookOver_55 : decode prog_14_method_36_code 55 = .ok (.baload, 1) := by decide +kernel
theorem d_m_lookOver_56 : decode prog_14_method_36_code 56 = .ok (.ifCond .eq 7, 3) := by decide +kernel
theorem d_m_lookOver_59 : decode prog_14_method_36_code 59 = .ok (.iconst 0, 1) := by decide +kernel
theorem d_m_lookOver_60 : decode prog_14_method_36_code 60 = .ok (.goto 13, 3) := by decide +kernel
theorem d_m_lookOver_63 : decode prog_14_method_36_code 63 = .ok (.aload_n 0, 1) := by decide +kernel
theorem d_m_lookOver_64 : decode prog_14_method_36_code 64 = .ok (.iload_n 1, 1) := by decide +kernel
theorem d_m_lookOver_65 : decode prog_14_method_36_code 65 = .ok (.iconst 2, 1) := by decide +kernel
theorem d_m_lookOver_66 : decode prog_14_method_36_code 66 = .ok (.iload_n 3, 1) := by decide +kernel
theorem d_m_lookOver_67 : decode prog_14_method_36_code 67 = .ok (.imul, 1) := by decide +kernel
theorem d_m_lookOver_68 : decode prog_14_method_36_code 68 = .ok (.iconst 1, 1) := by decide +kernel
theorem d_m_lookOver_69 : decode prog_14_method_36_code 69 = .ok (.iadd, 1) := by decide +kernel
theorem d_m_lookOver_70 : decode prog_14_method_36_code 70 = .ok (.invokevirtual 266, 3) := by decide +kernel
theorem d_m_lookOver_73 : decode prog_14_method_36_code 73 = .ok (.iastore, 1) := by decide +kernel
theorem d_m_lookOver_74 : decode prog_14_method_36_code 74 = .ok (.iinc 3 1, 3) := by decide +kernel
theorem d_m_lookOver_77 : decode prog_14_method_36_code 77 = .ok (.goto (-51), 3) := by decide +kernel
theorem d_m_lookOver_80 : decode prog_14_method_36_code 80 = .ok (.bipush 24, 2) := by decide +kernel
theorem d_m_lookOver_82 : decode prog_14_method_36_code 82 = .ok (.iload_n 1, 1) := by decide +kernel
theorem d_m_lookOver_83 : decode prog_14_method_36_code 83 = .ok (.imul, 1) := by decide +kernel
theorem d_m_lookOver_84 : decode prog_14_method_36_code 84 = .ok (.istore_n 3, 1) := by decide +kernel
theorem d_m_lookOver_85 : decode prog_14_method_36_code 85 = .ok (.iload_n 3, 1) := by decide +kernel
theorem d_m_lookOver_86 : decode prog_14_method_36_code 86 = .ok (.iload_n 2, 1) := by decide +kernel
theorem d_m_lookOver_87 : decode prog_14_method_36_code 87 = .ok (.if_icmp .ge 140, 3) := by decide +kernel
theorem d_m_lookOver_90 : decode prog_14_method_36_code 90 = .ok (.aload_n 0, 1) := by decide +kernel
theorem d_m_lookOver_91 : decode prog_14_method_36_code 91 = .ok (.getfield 109, 3) := by decide +kernel
theorem d_m_lookOver_94 : decode prog_14_method_36_code 94 = .ok (.ifCond .ne 133, 3) := by decide +kernel
theorem d_m_lookOver_97 : decode prog_14_method_36_code 97 = .ok (.aload_n 0, 1) := by decide +kernel
theorem d_m_lookOver_98 : decode prog_14_method_36_code 98 = .ok (.aload_n 0, 1) := by decide +kernel
theorem d_m_lookOver_99 : decode prog_14_method_36_code 99 = .ok (.getfield 49, 3) := by decide +kernel
theorem d_m_lookOver_102 : decode prog_14_method_36_code 102 = .ok (.iload_n 3, 1) := by decide +kernel
theorem d_m_lookOver_103 : decode prog_14_method_36_code 103 = .ok (.iaload, 1) := by decide +kernel
theorem d_m_lookOver_104 : decode prog_14_method_36_code 104 = .ok (.putfield 112, 3) := by decide +kernel
theorem d_m_lookOver_107 : decode prog_14_method_36_code 107 = .ok (.bipush 24, 2) := by decide +kernel
theorem d_m_lookOver_109 : decode prog_14_method_36_code 109 = .ok (.iload_n 1, 1) := by decide +kernel
theorem d_m_lookOver_110 : decode prog_14_method_36_code 110 = .ok (.imul, 1) := by decide +kernel
theorem d_m_lookOver_111 : decode prog_14_method_36_code 111 = .ok (.istore 4, 2) := by decide +kernel
theorem d_m_lookOver_113 : decode prog_14_method_36_code 113 = .ok (.iload 4, 2) := by decide +kernel
theorem d_m_lookOver_115 : decode prog_14_method_36_code 115 = .ok (.iload_n 2, 1) := by decide +kernel
theorem d_m_lookOver_116 : decode prog_14_method_36_code 116 = .ok (.if_icmp .ge 105, 3) := by decide +kernel
theorem d_m_lookOver_119 : decode prog_14_method_36_code 119 = .ok (.aload_n 0, 1) := by decide +kernel
theorem d_m_lookOver_120 : decode prog_14_method_36_code 120 = .ok (.getfield 46, 3) := by decide +kernel
theorem d_m_lookOver_123 : decode prog_14_method_36_code 123 = .ok (.iload_n 3, 1) := by decide +kernel
theorem d_m_lookOver_124 : decode prog_14_method_36_code 124 = .ok (.iaload, 1) := by decide +kernel
theorem d_m_lookOver_125 : decode prog_14_method_36_code 125 = .ok (.iconst 4, 1) := by decide +kernel
theorem d_m_lookOver_126 : decode prog_14_method_36_code 126 = .ok (.if_icmp .ne 52, 3) := by decide +kernel
theorem d_m_lookOver_129 : decode prog_14_method_36_code 129 = .ok (.aload_n 0, 1) := by decide +kernel
theorem d_m_lookOver_130 : decode prog_14_method_36_code 130 = .ok (.getfield 46, 3) := by decide +kernel
theorem d_m_lookOver_133 : decode prog_14_method_36_code 133 = .ok (.iload 4, 2) := by decide +kernel
theorem d_m_lookOver_135 : decode prog_14_method_36_code 135 = .ok (.iaload, 1) := by decide +kernel
theorem d_m_lookOver_136 : decode prog_14_method_36_code 136 = .ok (.iconst 4, 1) := by decide +kernel
theorem d_m_lookOver_137 : decode prog_14_method_36_code 137 = .ok (.if_icmp .ne 41, 3) := by decide +kernel
theorem d_m_lookOver_140 : decode prog_14_method_36_code 140 = .ok (.iload 4, 2) := by decide +kernel
theorem d_m_lookOver_142 : decode prog_14_method_36_code 142 = .ok (.iload_n 3, 1) := by decide +kernel
theorem d_m_lookOver_143 : decode prog_14_method_36_code 143 = .ok (.if_icmp .ge 35, 3) := by decide +kernel
theorem d_m_lookOver_146 : decode prog_14_method_36_code 146 = .ok (.aload_n 0, 1) := by decide +kernel
theorem d_m_lookOver_147 : decode prog_14_method_36_code 147 = .ok (.getfield 64, 3) := by decide +kernel
theorem d_m_lookOver_150 : decode prog_14_method_36_code 150 = .ok (.iload_n 3, 1) := by decide +kernel
theorem d_m_lookOver_151 : decode prog_14_method_36_code 151 = .ok (.iaload, 1) := by decide +kernel
theorem d_m_lookOver_152 : decode prog_14_method_36_code 152 = .ok (.aload_n 0, 1) := by decide +kernel
theorem d_m_lookOver_153 : decode prog_14_method_36_code 153 = .ok (.getfield 64, 3) := by decide +kernel
theorem d_m_lookOver_156 : decode prog_14_method_36_code 156 = .ok (.iload 4, 2) := by decide +kernel
theorem d_m_lookOver_158 : decode prog_14_method_36_code 158 = .ok (.iaload, 1) := by decide +kernel
theorem d_m_lookOver_159 : decode prog_14_method_36_code 159 = .ok (.if_icmp .eq 19, 3) := by decide +kernel
theorem d_m_lookOver_162 : decode prog_14_method_36_code 162 = .ok (.aload_n 0, 1) := by decide +kernel
theorem d_m_lookOver_163 : decode prog_14_method_36_code 163 = .ok (.iload_n 3, 1) := by decide +kernel
theorem d_m_lookOver_164 : decode prog_14_method_36_code 164 = .ok (.iload 4, 2) := by decide +kernel
theorem d_m_lookOver_166 : decode prog_14_method_36_code 166 = .ok (.iconst 0, 1) := by decide +kernel
theorem d_m_lookOver_167 : decode prog_14_method_36_code 167 = .ok (.invokevirtual 269, 3) := by decide +kernel
theorem d_m_lookOver_170 : decode prog_14_method_36_code 170 = .ok (.ifCond .eq 8, 3) := by decide +kernel
theorem d_m_lookOver_173 : decode prog_14_method_36_code 173 = .ok (.aload_n 0, 1) := by decide +kernel
theorem d_m_lookOver_174 : decode prog_14_method_36_code 174 = .ok (.iconst 5, 1) := by decide +kernel
theorem d_m_lookOver_175 : decode prog_14_method_36_code 175 = .ok (.invokevirtual 141, 3) := by decide +kernel
theorem d_m_lookOver_178 : decode prog_14_method_36_code 178 = .ok (.aload_n 0, 1) := by decide +kernel
theorem d_m_lookOver_179 : decode prog_14_method_36_code 179 = .ok (.getfield 46, 3) := by decide +kernel
theorem d_m_lookOver_182 : decode prog_14_method_36_code 182 = .ok (.iload_n 3, 1) := by decide +kernel
theorem d_m_lookOver_183 : decode prog_14_method_36_code 183 = .ok (.iaload, 1) := by decide +kernel
theorem d_m_lookOver_184 : decode prog_14_method_36_code 184 = .ok (.iconst 3, 1) := by decide +kernel
theorem d_m_lookOver_185 : decode prog_14_method_36_code 185 = .ok (.if_icmp .ne 30, 3) := by decide +kernel
theorem d_m_lookOver_188 : decode prog_14_method_36_code 188 = .ok (.aload_n 0, 1) := by decide +kernel
theorem d_m_lookOver_189 : decode prog_14_method_36_code 189 = .ok (.getfield 46, 3) := by decide +kernel
theorem d_m_lookOver_192 : decode prog_14_method_36_code 192 = .ok (.iload 4, 2) := by decide +kernel
theorem d_m_lookOver_194 : decode prog_14_method_36_code 194 = .ok (.iaload, 1) := by decide +kernel
theorem d_m_lookOver_195 : decode prog_14_method_36_code 195 = .ok (.ifCond .ne 20, 3) := by decide +kernel
theorem d_m_lookOver_198 : decode prog_14_method_36_code 198 = .ok (.aload_n 0, 1) := by decide +kernel
theorem d_m_lookOver_199 : decode prog_14_method_36_code 199 = .ok (.iload_n 3, 1) := by decide +kernel
theorem d_m_lookOver_200 : decode prog_14_method_36_code 200 = .ok (.iload 4, 2) := by decide +kernel
theorem d_m_lookOver_202 : decode prog_14_method_36_code 202 = .ok (.iconst 1, 1) := by decide +kernel
theorem d_m_lookOver_203 : decode prog_14_method_36_code 203 = .ok (.invokevirtual 269, 3) := by decide +kernel
theorem d_m_lookOver_206 : decode prog_14_method_36_code 206 = .ok (.ifCond .eq 9, 3) := by decide +kernel
theorem d_m_lookOver_209 : decode prog_14_method_36_code 209 = .ok (.aload_n 0, 1) := by decide +kernel
theorem d_m_lookOver_210 : decode prog_14_method_36_code 210 = .ok (.bipush 6, 2) := by decide +kernel
theorem d_m_lookOver_212 : decode prog_14_method_36_code 212 = .ok (.invokevirtual 141, 3) := by decide +kernel
theorem d_m_lookOver_215 : decode prog_14_method_36_code 215 = .ok (.iinc 4 1, 3) := by decide +kernel
theorem d_m_lookOver_218 : decode prog_14_method_36_code 218 = .ok (.goto (-105), 3) := by decide +kernel
theorem d_m_lookOver_221 : decode prog_14_method_36_code 221 = .ok (.iinc 3 1, 3) := by decide +kernel
theorem d_m_lookOver_224 : decode prog_14_method_36_code 224 = .ok (.goto (-139), 3) := by decide +kernel
theorem d_m_lookOver_227 : decode prog_14_method_36_code 227 = .ok (.return_, 1) := by decide +kernel
def m_lookOver_J178 (kO85 : Int32 → MS → Option MS) (kO113 : Int32 → MS → Option MS) (v1_178 : Int32) (v2_178 : Int32) (v3_178 : Int32) (v4_178 : Int32) (S_178 : MS) : Option MS := (if inbd v3_178 48 = true then (if (gI S_178 11 (txN v3_178)) = 3 then (if inbd v4_178 48 = true then (if (gI S_178 11 (txN v4_178)) = 0 then ((m_meets v3_178 v4_178 true S_178).bind fun q203 => (if q203 = true then ((m_fail 6 S_178).bind fun q212 => (bd ((v4_178 + 1)) fun a215 => kO113 a215 q212)) else (bd ((v4_178 + 1)) fun a215 => kO113 a215 S_178))) else (bd ((v4_178 + 1)) fun a215 => kO113 a215 S_178)) else none) else (bd ((v4_178 + 1)) fun a215 => kO113 a215 S_178)) else none)
def m_lookOver_L113 (kO85 : Int32 → MS → Option MS) (v1_113 : Int32) (v2_113 : Int32) (v3_113 : Int32) : Nat → Int32 → MS → Option MS
  | 0, _, _ => none
  | n + 1, v4_113, S_113 => (if v2_113 ≤ v4_113 then (bd ((v3_113 + 1)) fun a221 => kO85 a221 S_113) else (if inbd v3_113 48 = true then (if (gI S_113 11 (txN v3_113)) = 4 then (if inbd v4_113 48 = true then (if (gI S_113 11 (txN v4_113)) = 4 then (if v3_113 ≤ v4_113 then m_lookOver_J178 kO85 (m_lookOver_L113 kO85 v1_113 v2_113 v3_113 n) v1_113 v2_113 v3_113 v4_113 S_113 else (if inbd v3_113 48 = true then (if inbd v4_113 48 = true then (if (gI S_113 17 (txN v3_113)) = (gI S_113 17 (txN v4_113)) then m_lookOver_J178 kO85 (m_lookOver_L113 kO85 v1_113 v2_113 v3_113 n) v1_113 v2_113 v3_113 v4_113 S_113 else ((m_meets v3_113 v4_113 false S_113).bind fun q167 => (if q167 = true then ((m_fail 5 S_113).bind fun q175 => m_lookOver_J178 kO85 (m_lookOver_L113 kO85 v1_113 v2_113 v3_113 n) v1_113 v2_113 v3_113 v4_113 q175) else m_lookOver_J178 kO85 (m_lookOver_L113 kO85 v1_113 v2_113 v3_113 n) v1_113 v2_113 v3_113 v4_113 S_113))) else none) else none)) else m_lookOver_J178 kO85 (m_lookOver_L113 kO85 v1_113 v2_113 v3_113 n) v1_113 v2_113 v3_113 v4_113 S_113) else none) else m_lookOver_J178 kO85 (m_lookOver_L113 kO85 v1_113 v2_113 v3_113 n) v1_113 v2_113 v3_113 v4_113 S_113) else none))
def m_lookOver_L85 (v1_85 : Int32) (v2_85 : Int32) : Nat → Int32 → MS → Option MS
  | 0, _, _ => none
  | n + 1, v3_85, S_85 => (if v2_85 ≤ v3_85 then some S_85 else (if (gI S_85 0 7) = 0 then (if inbd v3_85 48 = true then (bd (pI S_85 0 3 (gI S_85 12 (txN v3_85))) fun S104 => (bd ((24 * v1_85)) fun a111 => m_lookOver_L113 (m_lookOver_L85 v1_85 v2_85 n) v1_85 v2_85 v3_85 600 a111 S104)) else none) else some S_85))
def m_lookOver_L26 (v1_26 : Int32) (v2_26 : Int32) : Nat → Int32 → MS → Option MS
  | 0, _, _ => none
  | n + 1, v3_26, S_26 => (if v2_26 ≤ v3_26 then (bd ((24 * v1_26)) fun a84 => m_lookOver_L85 v1_26 v2_26 600 a84 S_26) else ((m_resolve v1_26 (2 * v3_26) S_26).bind fun q41 => (if inbd v3_26 48 = true then (bd (pI S_26 14 (txN v3_26) q41) fun S44 => (if inbd v3_26 48 = true then (if (gB S44 19 (txN v3_26)) = true then (if inbd v3_26 48 = true then (bd (pI S44 15 (txN v3_26) 0) fun S73 => (bd ((v3_26 + 1)) fun a74 => (m_lookOver_L26 v1_26 v2_26 n) a74 S73)) else none) else ((m_resolve v1_26 ((2 * v3_26) + 1) S44).bind fun q70 => (if inbd v3_26 48 = true then (bd (pI S44 15 (txN v3_26) q70) fun S73 => (bd ((v3_26 + 1)) fun a74 => (m_lookOver_L26 v1_26 v2_26 n) a74 S73)) else none))) else none)) else none)))
def m_lookOver (S : MS) : Option MS := ((m_own S).bind fun q1 => (if inbd ((5 * q1) + 4) 10 = true then (bd (((24 * q1) + (gI S 2 (txN ((5 * q1) + 4))))) fun a20 => (bd ((24 * q1)) fun a25 => m_lookOver_L26 q1 a20 600 a25 S)) else none))
set_option maxHeartbeats 4000000 in
set_option maxRecDepth 100000 in
theorem M_m_lookOver {l : Launch} {D : va_G} {cA : Nat → ClassId} {b : Nat} {ad : Nat → Nat}  {S : MS} {T : CS} {o : Nat → Int64} {rr : MS}  (h : m_lookOver  S = some rr) : Met l y_m_lookOver (Cond.code y_m_lookOver prog_14_method_36_code 5 (Option.none : Option Jvm.ClassFile.FieldType) :: TW) { frames := 2, cells := 0, slots := 0, locals := 48 } (va_Pc [.ref (b + 262)] (Rp D cA b ad (T, S, o))) (Qr D cA b ad (T, rr, o) none) 0 0 (Ab b) := by
  refine Ct_of (by decide) (Nat.le_of_ble_eq_true rfl) ?_
  intro p e R s m args below meth c ls Q H locs hR hQ hx hb hts hown hml hr hlk hC hX hS hl
  have hRf : R.frames = 2 := by rw [hR]
  have hRl : R.locals = 48 := by rw [hR]
  have hown : s.vm.findClass "TypeGuardModel" = some m.cls := hown
  have hl : lv_has ls 5 [(0, .ref (b + 262))] := hl
  rw [m_lookOver] at h
  refine lv_aload_n hx hb d_m_lookOver_0 rfl (lv_at hl 0 rfl) ?_
  obtain ⟨q1, hc1, h⟩ := Option.bind_eq_some_iff.mp h
  refine ck_V (As := []) (rest := []) (st1 := [.int q1]) (M_m_own  hc1) t_1145 t_1147 p_38 t_1148 t_13 hx hb hts hown hC hX hS (hrc_m0 hC hX (by rfl)) hml hl.1 ⟨by rw [hRf]; decide, by rw [hRl]; decide⟩ ⟨rfl, rfl⟩ (n := 0) (by decide +kernel) rfl rfl rfl (lv_room (Nat.le_of_ble_eq_true rfl)) d_m_lookOver_1 (fun H locs hX hS => ?_)
  refine lv_istore_n (lv' := [(1, .int q1), (0, .ref (b + 262))]) hx hb d_m_lookOver_4 rfl hl (by decide) rfl (fun ls hl => ?_)
  refine lv_bipush (v := 24) hx hb d_m_lookOver_5 (by decide) ?_
  refine lv_iload_n hx hb d_m_lookOver_7 rfl (lv_at hl 0 rfl) ?_
  refine lv_imul hx hb d_m_lookOver_8 ?_
  refine lv_aload_n hx hb d_m_lookOver_9 rfl (lv_at hl 1 rfl) ?_
  refine m_get_0_13 hx hb hts hown hC hX (by rfl) (hts _ t_1000) d_m_lookOver_10 ?_
  refine lv_iconst (v := 5) hx hb d_m_lookOver_13 (by decide) ?_
  refine lv_iload_n hx hb d_m_lookOver_14 rfl (lv_at hl 0 rfl) ?_
  refine lv_imul hx hb d_m_lookOver_15 ?_
  refine lv_iconst (v := 4) hx hb d_m_lookOver_16 (by decide) ?_
  refine lv_iadd hx hb d_m_lookOver_17 ?_
  by_cases hg18 : inbd ((5 * q1) + 4) 10 = true
  rotate_left; · rw [if_neg hg18] at h; cases h
  rw [if_pos hg18] at h
  refine m_ald_1 (k := 2) hx hb hC hX (by rfl) hg18 d_m_lookOver_18 ?_
  refine lv_iadd hx hb d_m_lookOver_19 ?_
  obtain ⟨a20, e20, h⟩ := bd_some h
  refine lt_I e20 ?_
  refine lv_istore_n (lv' := [(2, .int a20), (1, .int q1), (0, .ref (b + 262))]) hx hb d_m_lookOver_20 rfl hl (by decide) rfl (fun ls hl => ?_)
  refine lv_bipush (v := 24) hx hb d_m_lookOver_21 (by decide) ?_
  refine lv_iload_n hx hb d_m_lookOver_23 rfl (lv_at hl 1 rfl) ?_
  refine lv_imul hx hb d_m_lookOver_24 ?_
  obtain ⟨a25, e25, h⟩ := bd_some h
  refine lt_I e25 ?_
  refine lv_istore_n (lv' := [(3, .int a25), (2, .int a20), (1, .int q1), (0, .ref (b + 262))]) hx hb d_m_lookOver_25 rfl hl (by decide) rfl (fun ls hl => ?_)
  have L26 : ∀ (n26 : Nat) (v3_26 : Int32) (S_26 : MS) (H : Heap) (locs : List Loc) (ls : Array Slot), hp D cA b ad (T, S_26, o) H → va_S (Ab b) s.heap H locs → lv_has ls 5 [(0, .ref (b + 262)), (1, .int q1), (2, .int a20), (3, .int v3_26)] → m_lookOver_L26 q1 a20 n26 v3_26 S_26 = some rr → W p l e R s m args below meth c H locs 0 0 Q (F0 m 26 ls []) := by
    intro n26; induction n26 with
    | zero => intro v3_26 S_26 H locs ls  hX hS hl h; rw [m_lookOver_L26] at h; cases h
    | succ n26 ih26 =>
      intro v3_26 S_26 H locs ls  hX hS hl h
      rw [m_lookOver_L26] at h
      refine lv_iload_n hx hb d_m_lookOver_26 rfl (lv_at hl 3 rfl) ?_
      refine lv_iload_n hx hb d_m_lookOver_27 rfl (lv_at hl 2 rfl) ?_
      refine lv_icmp_ge hx hb d_m_lookOver_28 (tgt := 80) (by decide) (fun hc => ?_) (fun hc => ?_)
      · rw [if_pos hc] at h
        refine lv_bipush (v := 24) hx hb d_m_lookOver_80 (by decide) ?_
        refine lv_iload_n hx hb d_m_lookOver_82 rfl (lv_at hl 1 rfl) ?_
        refine lv_imul hx hb d_m_lookOver_83 ?_
        obtain ⟨a84, e84, h⟩ := bd_some h
        refine lt_I e84 ?_
        refine lv_istore_n (lv' := [(3, .int a84), (0, .ref (b + 262)), (1, .int q1), (2, .int a20)]) hx hb d_m_lookOver_84 rfl hl (by decide) rfl (fun ls hl => ?_)
        have L85 : ∀ (n85 : Nat) (v3_85 : Int32) (S_85 : MS) (H : Heap) (locs : List Loc) (ls : Array Slot), hp D cA b ad (T, S_85, o) H → va_S (Ab b) s.heap H locs → lv_has ls 5 [(0, .ref (b + 262)), (1, .int q1), (2, .int a20), (3, .int v3_85)] → m_lookOver_L85 q1 a20 n85 v3_85 S_85 = some rr → W p l e R s m args below meth c H locs 0 0 Q (F0 m 85 ls []) := by
          intro n85; induction n85 with
          | zero => intro v3_85 S_85 H locs ls  hX hS hl h; rw [m_lookOver_L85] at h; cases h
          | succ n85 ih85 =>
            intro v3_85 S_85 H locs ls  hX hS hl h
            rw [m_lookOver_L85] at h
            refine lv_iload_n hx hb d_m_lookOver_85 rfl (lv_at hl 3 rfl) ?_
            refine lv_iload_n hx hb d_m_lookOver_86 rfl (lv_at hl 2 rfl) ?_
            refine lv_icmp_ge hx hb d_m_lookOver_87 (tgt := 227) (by decide) (fun hc => ?_) (fun hc => ?_)
            · rw [if_pos hc] at h
              obtain rfl := Option.some.inj h
              exact rt_v hQ hx hb hr hX hS hlk d_m_lookOver_227
            · rw [if_neg hc] at h
              refine lv_aload_n hx hb d_m_lookOver_90 rfl (lv_at hl 0 rfl) ?_
              refine m_get_0_7 hx hb hts hown hC hX (by rfl) (hts _ t_994) d_m_lookOver_91 ?_
              refine lv_if_ne hx hb d_m_lookOver_94 (tgt := 227) (by decide) (fun hc => ?_) (fun hc => ?_)
              · rw [if_neg hc] at h
                obtain rfl := Option.some.inj h
                exact rt_v hQ hx hb hr hX hS hlk d_m_lookOver_227
              · rw [if_pos hc] at h
                refine lv_aload_n hx hb d_m_lookOver_97 rfl (lv_at hl 0 rfl) ?_
                refine lv_aload_n hx hb d_m_lookOver_98 rfl (lv_at hl 0 rfl) ?_
                refine m_get_0_23 hx hb hts hown hC hX (by rfl) (hts _ t_1010) d_m_lookOver_99 ?_
                refine lv_iload_n hx hb d_m_lookOver_102 rfl (lv_at hl 3 rfl) ?_
                by_cases hg103 : inbd v3_85 48 = true
                rotate_left; · rw [if_neg hg103] at h; cases h
                rw [if_pos hg103] at h
                refine m_ald_1 (k := 12) hx hb hC hX (by rfl) hg103 d_m_lookOver_103 ?_
                refine m_put_0_3 (v := (gI S_85 12 (txN v3_85))) hx hb hts hown hC hX hS (by rfl) (hts _ t_990) d_m_lookOver_104 (fun H locs hX hS => ?_)
                obtain ⟨S104, e104, h⟩ := bd_some h
                rw [← e104] at hX
                refine lv_bipush (v := 24) hx hb d_m_lookOver_107 (by decide) ?_
                refine lv_iload_n hx hb d_m_lookOver_109 rfl (lv_at hl 1 rfl) ?_
                refine lv_imul hx hb d_m_lookOver_110 ?_
                obtain ⟨a111, e111, h⟩ := bd_some h
                refine lt_I e111 ?_
                refine lv_istore (lv' := [(4, .int a111), (0, .ref (b + 262)), (1, .int q1), (2, .int a20), (3, .int v3_85)]) hx hb d_m_lookOver_111 hl (by decide) rfl (fun ls hl => ?_)
                have L113 : ∀ (n113 : Nat) (v4_113 : Int32) (S_113 : MS) (H : Heap) (locs : List Loc) (ls : Array Slot), hp D cA b ad (T, S_113, o) H → va_S (Ab b) s.heap H locs → lv_has ls 5 [(0, .ref (b + 262)), (1, .int q1), (2, .int a20), (3, .int v3_85), (4, .int v4_113)] → m_lookOver_L113 (m_lookOver_L85 q1 a20 n85) q1 a20 v3_85 n113 v4_113 S_113 = some rr → W p l e R s m args below meth c H locs 0 0 Q (F0 m 113 ls []) := by
                  intro n113; induction n113 with
                  | zero => intro v4_113 S_113 H locs ls  hX hS hl h; rw [m_lookOver_L113] at h; cases h
                  | succ n113 ih113 =>
                    intro v4_113 S_113 H locs ls  hX hS hl h
                    rw [m_lookOver_L113] at h
                    refine lv_iload hx hb d_m_lookOver_113 (lv_at hl 4 rfl) ?_
                    refine lv_iload_n hx hb d_m_lookOver_115 rfl (lv_at hl 2 rfl) ?_
                    refine lv_icmp_ge hx hb d_m_lookOver_116 (tgt := 221) (by decide) (fun hc => ?_) (fun hc => ?_)
                    · rw [if_pos hc] at h
                      obtain ⟨a221, e221, h⟩ := bd_some h
                      refine lv_iinc (v := a221) (lv' := [(3, .int a221), (0, .ref (b + 262)), (1, .int q1), (2, .int a20), (4, .int v4_113)]) hx hb d_m_lookOver_221 hl (k := 3) rfl e221.symm (by decide) rfl (fun ls hl => ?_)
                      refine lv_goto hx hb d_m_lookOver_224 (tgt := 85) (by decide) ?_
                      exact ih85 a221 S_113 H locs ls  hX hS (lv_sub hl [1, 2, 3, 0] rfl) h
                    · rw [if_neg hc] at h
                      refine lv_aload_n hx hb d_m_lookOver_119 rfl (lv_at hl 0 rfl) ?_
                      refine m_get_0_22 hx hb hts hown hC hX (by rfl) (hts _ t_1009) d_m_lookOver_120 ?_
                      refine lv_iload_n hx hb d_m_lookOver_123 rfl (lv_at hl 3 rfl) ?_
                      by_cases hg124 : inbd v3_85 48 = true
                      rotate_left; · rw [if_neg hg124] at h; cases h
                      rw [if_pos hg124] at h
                      refine m_ald_1 (k := 11) hx hb hC hX (by rfl) hg124 d_m_lookOver_124 ?_
                      refine lv_iconst (v := 4) hx hb d_m_lookOver_125 (by decide) ?_
                      have J178 : ∀ (S_178 : MS) (H : Heap) (locs : List Loc) (ls : Array Slot), hp D cA b ad (T, S_178, o) H → va_S (Ab b) s.heap H locs → lv_has ls 5 [(0, .ref (b + 262)), (1, .int q1), (2, .int a20), (3, .int v3_85), (4, .int v4_113)] → m_lookOver_J178 (m_lookOver_L85 q1 a20 n85) (m_lookOver_L113 (m_lookOver_L85 q1 a20 n85) q1 a20 v3_85 n113) q1 a20 v3_85 v4_113 S_178 = some rr → W p l e R s m args below meth c H locs 0 0 Q (F0 m 178 ls []) := by
                        intro S_178 H locs ls  hX hS hl h
                        rw [m_lookOver_J178] at h
                        refine lv_aload_n hx hb d_m_lookOver_178 rfl (lv_at hl 0 rfl) ?_
                        refine m_get_0_22 hx hb hts hown hC hX (by rfl) (hts _ t_1009) d_m_lookOver_179 ?_
                        refine lv_iload_n hx hb d_m_lookOver_182 rfl (lv_at hl 3 rfl) ?_
                        by_cases hg183 : inbd v3_85 48 = true
                        rotate_left; · rw [if_neg hg183] at h; cases h
                        rw [if_pos hg183] at h
                        refine m_ald_1 (k := 11) hx hb hC hX (by rfl) hg183 d_m_lookOver_183 ?_
                        refine lv_iconst (v := 3) hx hb d_m_lookOver_184 (by decide) ?_
                        refine lv_icmp_ne hx hb d_m_lookOver_185 (tgt := 215) (by decide) (fun hc => ?_) (fun hc => ?_)
                        · rw [if_neg hc] at h
                          obtain ⟨a215, e215, h⟩ := bd_some h
                          refine lv_iinc (v := a215) (lv' := [(4, .int a215), (0, .ref (b + 262)), (1, .int q1), (2, .int a20), (3, .int v3_85)]) hx hb d_m_lookOver_215 hl (k := 4) rfl e215.symm (by decide) rfl (fun ls hl => ?_)
                          refine lv_goto hx hb d_m_lookOver_218 (tgt := 113) (by decide) ?_
                          exact ih113 a215 S_178 H locs ls  hX hS (lv_sub hl [1, 2, 3, 4, 0] rfl) h
                        · rw [if_pos hc] at h
                          refine lv_aload_n hx hb d_m_lookOver_188 rfl (lv_at hl 0 rfl) ?_
                          refine m_get_0_22 hx hb hts hown hC hX (by rfl) (hts _ t_1009) d_m_lookOver_189 ?_
                          refine lv_iload hx hb d_m_lookOver_192 (lv_at hl 4 rfl) ?_
                          by_cases hg194 : inbd v4_113 48 = true
                          rotate_left; · rw [if_neg hg194] at h; cases h
                          rw [if_pos hg194] at h
                          refine m_ald_1 (k := 11) hx hb hC hX (by rfl) hg194 d_m_lookOver_194 ?_
                          refine lv_if_ne hx hb d_m_lookOver_195 (tgt := 215) (by decide) (fun hc => ?_) (fun hc => ?_)
                          · rw [if_neg hc] at h
                            obtain ⟨a215, e215, h⟩ := bd_some h
                            refine lv_iinc (v := a215) (lv' := [(4, .int a215), (0, .ref (b + 262)), (1, .int q1), (2, .int a20), (3, .int v3_85)]) hx hb d_m_lookOver_215 hl (k := 4) rfl e215.symm (by decide) rfl (fun ls hl => ?_)
                            refine lv_goto hx hb d_m_lookOver_218 (tgt := 113) (by decide) ?_
                            exact ih113 a215 S_178 H locs ls  hX hS (lv_sub hl [1, 2, 3, 4, 0] rfl) h
                          · rw [if_pos hc] at h
                            refine lv_aload_n hx hb d_m_lookOver_198 rfl (lv_at hl 0 rfl) ?_
                            refine lv_iload_n hx hb d_m_lookOver_199 rfl (lv_at hl 3 rfl) ?_
                            refine lv_iload hx hb d_m_lookOver_200 (lv_at hl 4 rfl) ?_
                            refine lv_iconst (v := 1) hx hb d_m_lookOver_202 (by decide) ?_
                            obtain ⟨q203, hc203, h⟩ := Option.bind_eq_some_iff.mp h
                            refine ck_V (As := [.int v3_85, .int v4_113, .int (bI true)]) (rest := []) (st1 := [.int (bI q203)]) (M_m_meets  hc203) t_1280 t_1282 p_64 t_1283 t_13 hx hb hts hown hC hX hS (hrc_m0 hC hX (by rfl)) hml hl.1 ⟨by rw [hRf]; decide, by rw [hRl]; decide⟩ ⟨rfl, rfl⟩ (n := 3) (by decide +kernel) rfl rfl rfl (lv_room (Nat.le_of_ble_eq_true rfl)) d_m_lookOver_203 (fun H locs hX hS => ?_)
                            refine lz_ifeq hx hb d_m_lookOver_206 (tgt := 215) (by decide) (fun hc => ?_) (fun hc => ?_)
                            · rw [if_neg hc] at h
                              obtain ⟨a215, e215, h⟩ := bd_some h
                              refine lv_iinc (v := a215) (lv' := [(4, .int a215), (0, .ref (b + 262)), (1, .int q1), (2, .int a20), (3, .int v3_85)]) hx hb d_m_lookOver_215 hl (k := 4) rfl e215.symm (by decide) rfl (fun ls hl => ?_)
                              refine lv_goto hx hb d_m_lookOver_218 (tgt := 113) (by decide) ?_
                              exact ih113 a215 S_178 H locs ls  hX hS (lv_sub hl [1, 2, 3, 4, 0] rfl) h
                            · rw [if_pos hc] at h
                              refine lv_aload_n hx hb d_m_lookOver_209 rfl (lv_at hl 0 rfl) ?_
                              refine lv_bipush (v := 6) hx hb d_m_lookOver_210 (by decide) ?_
                              obtain ⟨q212, hc212, h⟩ := Option.bind_eq_some_iff.mp h
                              refine ck_V (As := [.int 6]) (rest := []) (st1 := []) (M_m_fail  hc212) t_1159 t_1161 p_40 t_1162 t_13 hx hb hts hown hC hX hS (hrc_m0 hC hX (by rfl)) hml hl.1 ⟨by rw [hRf]; decide, by rw [hRl]; decide⟩ ⟨rfl, rfl⟩ (n := 1) (by decide +kernel) rfl rfl rfl (lv_room (Nat.le_of_ble_eq_true rfl)) d_m_lookOver_212 (fun H locs hX hS => ?_)
                              obtain ⟨a215, e215, h⟩ := bd_some h
                              refine lv_iinc (v := a215) (lv' := [(4, .int a215), (0, .ref (b + 262)), (1, .int q1), (2, .int a20), (3, .int v3_85)]) hx hb d_m_lookOver_215 hl (k := 4) rfl e215.symm (by decide) rfl (fun ls hl => ?_)
                              refine lv_goto hx hb d_m_lookOver_218 (tgt := 113) (by decide) ?_
                              exact ih113 a215 q212 H locs ls  hX hS (lv_sub hl [1, 2, 3, 4, 0] rfl) h
                      refine lv_icmp_ne hx hb d_m_lookOver_126 (tgt := 178) (by decide) (fun hc => ?_) (fun hc => ?_)
                      · rw [if_neg hc] at h
                        exact J178 S_113 H locs ls  hX hS (lv_sub hl [0, 1, 2, 3, 4] rfl) h
                      · rw [if_pos hc] at h
                        refine lv_aload_n hx hb d_m_lookOver_129 rfl (lv_at hl 0 rfl) ?_
                        refine m_get_0_22 hx hb hts hown hC hX (by rfl) (hts _ t_1009) d_m_lookOver_130 ?_
                        refine lv_iload hx hb d_m_lookOver_133 (lv_at hl 4 rfl) ?_
                        by_cases hg135 : inbd v4_113 48 = true
                        rotate_left; · rw [if_neg hg135] at h; cases h
                        rw [if_pos hg135] at h
                        refine m_ald_1 (k := 11) hx hb hC hX (by rfl) hg135 d_m_lookOver_135 ?_
                        refine lv_iconst (v := 4) hx hb d_m_lookOver_136 (by decide) ?_
                        refine lv_icmp_ne hx hb d_m_lookOver_137 (tgt := 178) (by decide) (fun hc => ?_) (fun hc => ?_)
                        · rw [if_neg hc] at h
                          exact J178 S_113 H locs ls  hX hS (lv_sub hl [0, 1, 2, 3, 4] rfl) h
                        · rw [if_pos hc] at h
                          refine lv_iload hx hb d_m_lookOver_140 (lv_at hl 4 rfl) ?_
                          refine lv_iload_n hx hb d_m_lookOver_142 rfl (lv_at hl 3 rfl) ?_
                          refine lv_icmp_ge hx hb d_m_lookOver_143 (tgt := 178) (by decide) (fun hc => ?_) (fun hc => ?_)
                          · rw [if_pos hc] at h
                            exact J178 S_113 H locs ls  hX hS (lv_sub hl [0, 1, 2, 3, 4] rfl) h
                          · rw [if_neg hc] at h
                            refine lv_aload_n hx hb d_m_lookOver_146 rfl (lv_at hl 0 rfl) ?_
                            refine m_get_0_28 hx hb hts hown hC hX (by rfl) (hts _ t_1015) d_m_lookOver_147 ?_
                            refine lv_iload_n hx hb d_m_lookOver_150 rfl (lv_at hl 3 rfl) ?_
                            by_cases hg151 : inbd v3_85 48 = true
                            rotate_left; · rw [if_neg hg151] at h; cases h
                            rw [if_pos hg151] at h
                            refine m_ald_1 (k := 17) hx hb hC hX (by rfl) hg151 d_m_lookOver_151 ?_
                            refine lv_aload_n hx hb d_m_lookOver_152 rfl (lv_at hl 0 rfl) ?_
                            refine m_get_0_28 hx hb hts hown hC hX (by rfl) (hts _ t_1015) d_m_lookOver_153 ?_
                            refine lv_iload hx hb d_m_lookOver_156 (lv_at hl 4 rfl) ?_
                            by_cases hg158 : inbd v4_113 48 = true
                            rotate_left; · rw [if_neg hg158] at h; cases h
                            rw [if_pos hg158] at h
                            refine m_ald_1 (k := 17) hx hb hC hX (by rfl) hg158 d_m_lookOver_158 ?_
                            refine lv_icmp_eq hx hb d_m_lookOver_159 (tgt := 178) (by decide) (fun hc => ?_) (fun hc => ?_)
                            · rw [if_pos hc] at h
                              exact J178 S_113 H locs ls  hX hS (lv_sub hl [0, 1, 2, 3, 4] rfl) h
                            · rw [if_neg hc] at h
                              refine lv_aload_n hx hb d_m_lookOver_162 rfl (lv_at hl 0 rfl) ?_
                              refine lv_iload_n hx hb d_m_lookOver_163 rfl (lv_at hl 3 rfl) ?_
                              refine lv_iload hx hb d_m_lookOver_164 (lv_at hl 4 rfl) ?_
                              refine lv_iconst (v := 0) hx hb d_m_lookOver_166 (by decide) ?_
                              obtain ⟨q167, hc167, h⟩ := Option.bind_eq_some_iff.mp h
                              refine ck_V (As := [.int v3_85, .int v4_113, .int (bI false)]) (rest := []) (st1 := [.int (bI q167)]) (M_m_meets  hc167) t_1280 t_1282 p_64 t_1283 t_13 hx hb hts hown hC hX hS (hrc_m0 hC hX (by rfl)) hml hl.1 ⟨by rw [hRf]; decide, by rw [hRl]; decide⟩ ⟨rfl, rfl⟩ (n := 3) (by decide +kernel) rfl rfl rfl (lv_room (Nat.le_of_ble_eq_true rfl)) d_m_lookOver_167 (fun H locs hX hS => ?_)
                              refine lz_ifeq hx hb d_m_lookOver_170 (tgt := 178) (by decide) (fun hc => ?_) (fun hc => ?_)
                              · rw [if_neg hc] at h
                                exact J178 S_113 H locs ls  hX hS (lv_sub hl [0, 1, 2, 3, 4] rfl) h
                              · rw [if_pos hc] at h
                                refine lv_aload_n hx hb d_m_lookOver_173 rfl (lv_at hl 0 rfl) ?_
                                refine lv_iconst (v := 5) hx hb d_m_lookOver_174 (by decide) ?_
                                obtain ⟨q175, hc175, h⟩ := Option.bind_eq_some_iff.mp h
                                refine ck_V (As := [.int 5]) (rest := []) (st1 := []) (M_m_fail  hc175) t_1159 t_1161 p_40 t_1162 t_13 hx hb hts hown hC hX hS (hrc_m0 hC hX (by rfl)) hml hl.1 ⟨by rw [hRf]; decide, by rw [hRl]; decide⟩ ⟨rfl, rfl⟩ (n := 1) (by decide +kernel) rfl rfl rfl (lv_room (Nat.le_of_ble_eq_true rfl)) d_m_lookOver_175 (fun H locs hX hS => ?_)
                                exact J178 q175 H locs ls  hX hS (lv_sub hl [0, 1, 2, 3, 4] rfl) h
                exact L113 600 a111 S104 H locs ls  hX hS (lv_sub hl [1, 2, 3, 4, 0] rfl) h
        exact L85 600 a84 S_26 H locs ls  hX hS (lv_sub hl [1, 2, 3, 0] rfl) h
      · rw [if_neg hc] at h
        refine lv_aload_n hx hb d_m_lookOver_31 rfl (lv_at hl 0 rfl) ?_
        refine m_get_0_25 hx hb hts hown hC hX (by rfl) (hts _ t_1012) d_m_lookOver_32 ?_
        refine lv_iload_n hx hb d_m_lookOver_35 rfl (lv_at hl 3 rfl) ?_
        refine lv_aload_n hx hb d_m_lookOver_36 rfl (lv_at hl 0 rfl) ?_
        refine lv_iload_n hx hb d_m_lookOver_37 rfl (lv_at hl 1 rfl) ?_
        refine lv_iconst (v := 2) hx hb d_m_lookOver_38 (by decide) ?_
        refine lv_iload_n hx hb d_m_lookOver_39 rfl (lv_at hl 3 rfl) ?_
        refine lv_imul hx hb d_m_lookOver_40 ?_
        obtain ⟨q41, hc41, h⟩ := Option.bind_eq_some_iff.mp h
        refine ck_V (As := [.int q1, .int (2 * v3_26)]) (rest := [.int v3_26, .ref (b + 276)]) (st1 := [.int q41, .int v3_26, .ref (b + 276)]) (M_m_resolve  hc41) t_1272 t_1274 p_62 t_1275 t_13 hx hb hts hown hC hX hS (hrc_m0 hC hX (by rfl)) hml hl.1 ⟨by rw [hRf]; decide, by rw [hRl]; decide⟩ ⟨rfl, rfl⟩ (n := 2) (by decide +kernel) rfl rfl rfl (lv_room (Nat.le_of_ble_eq_true rfl)) d_m_lookOver_41 (fun H locs hX hS => ?_)
        by_cases hg44 : inbd v3_26 48 = true
        rotate_left; · rw [if_neg hg44] at h; cases h
        rw [if_pos hg44] at h
        refine m_ast_1 (k := 14) (v := q41) hx hb hC hX hS (by rfl) hg44 d_m_lookOver_44 (fun H locs hX hS => ?_)
        obtain ⟨S44, e44, h⟩ := bd_some h
        rw [← e44] at hX
        refine lv_aload_n hx hb d_m_lookOver_45 rfl (lv_at hl 0 rfl) ?_
        refine m_get_0_26 hx hb hts hown hC hX (by rfl) (hts _ t_1013) d_m_lookOver_46 ?_
        refine lv_iload_n hx hb d_m_lookOver_49 rfl (lv_at hl 3 rfl) ?_
        refine lv_aload_n hx hb d_m_lookOver_50 rfl (lv_at hl 0 rfl) ?_
        refine m_get_0_30 hx hb hts hown hC hX (by rfl) (hts _ t_1017) d_m_lookOver_51 ?_
        refine lv_iload_n hx hb d_m_lookOver_54 rfl (lv_at hl 3 rfl) ?_
        by_cases hg55 : inbd v3_26 48 = true
        rotate_left; · rw [if_neg hg55] at h; cases h
        rw [if_pos hg55] at h
        refine m_ald_3 (k := 19) hx hb hC hX (by rfl) hg55 d_m_lookOver_55 ?_
        refine lz_ifeq hx hb d_m_lookOver_56 (tgt := 63) (by decide) (fun hc => ?_) (fun hc => ?_)
        · rw [if_neg hc] at h
          refine lv_aload_n hx hb d_m_lookOver_63 rfl (lv_at hl 0 rfl) ?_
          refine lv_iload_n hx hb d_m_lookOver_64 rfl (lv_at hl 1 rfl) ?_
          refine lv_iconst (v := 2) hx hb d_m_lookOver_65 (by decide) ?_
          refine lv_iload_n hx hb d_m_lookOver_66 rfl (lv_at hl 3 rfl) ?_
          refine lv_imul hx hb d_m_lookOver_67 ?_
          refine lv_iconst (v := 1) hx hb d_m_lookOver_68 (by decide) ?_
          refine lv_iadd hx hb d_m_lookOver_69 ?_
          obtain ⟨q70, hc70, h⟩ := Option.bind_eq_some_iff.mp h
          refine ck_V (As := [.int q1, .int ((2 * v3_26) + 1)]) (rest := [.int v3_26, .ref (b + 277)]) (st1 := [.int q70, .int v3_26, .ref (b + 277)]) (M_m_resolve  hc70) t_1272 t_1274 p_62 t_1275 t_13 hx hb hts hown hC hX hS (hrc_m0 hC hX (by rfl)) hml hl.1 ⟨by rw [hRf]; decide, by rw [hRl]; decide⟩ ⟨rfl, rfl⟩ (n := 2) (by decide +kernel) rfl rfl rfl (lv_room (Nat.le_of_ble_eq_true rfl)) d_m_lookOver_70 (fun H locs hX hS => ?_)
          by_cases hg73 : inbd v3_26 48 = true
          rotate_left; · rw [if_neg hg73] at h; cases h
          rw [if_pos hg73] at h
          refine m_ast_1 (k := 15) (v := q70) hx hb hC hX hS (by rfl) hg73 d_m_lookOver_73 (fun H locs hX hS => ?_)
          obtain ⟨S73, e73, h⟩ := bd_some h
          rw [← e73] at hX
          obtain ⟨a74, e74, h⟩ := bd_some h
          refine lv_iinc (v := a74) (lv' := [(3, .int a74), (0, .ref (b + 262)), (1, .int q1), (2, .int a20)]) hx hb d_m_lookOver_74 hl (k := 3) rfl e74.symm (by decide) rfl (fun ls hl => ?_)
          refine lv_goto hx hb d_m_lookOver_77 (tgt := 26) (by decide) ?_
          exact ih26 a74 S73 H locs ls  hX hS (lv_sub hl [1, 2, 3, 0] rfl) h
        · rw [if_pos hc] at h
          refine lv_iconst (v := 0) hx hb d_m_lookOver_59 (by decide) ?_
          refine lv_goto hx hb d_m_lookOver_60 (tgt := 73) (by decide) ?_
          by_cases hg73 : inbd v3_26 48 = true
          rotate_left; · rw [if_neg hg73] at h; cases h
          rw [if_pos hg73] at h
          refine m_ast_1 (k := 15) (v := 0) hx hb hC hX hS (by rfl) hg73 d_m_lookOver_73 (fun H locs hX hS => ?_)
          obtain ⟨S73, e73, h⟩ := bd_some h
          rw [← e73] at hX
          obtain ⟨a74, e74, h⟩ := bd_some h
          refine lv_iinc (v := a74) (lv' := [(3, .int a74), (0, .ref (b + 262)), (1, .int q1), (2, .int a20)]) hx hb d_m_lookOver_74 hl (k := 3) rfl e74.symm (by decide) rfl (fun ls hl => ?_)
          refine lv_goto hx hb d_m_lookOver_77 (tgt := 26) (by decide) ?_
          exact ih26 a74 S73 H locs ls  hX hS (lv_sub hl [1, 2, 3, 0] rfl) h
  exact L26 600 a25 S H locs ls  hX hS (lv_sub hl [3, 2, 1, 0] rfl) h
