abbrev y_m_readClass : MethodName := ({ cls := "TypeGuardModel", name := "readClass", desc := "()V" } : Jvm.MethodName)
theorem d_m_readClass_0 : decode prog_14_method_18_code 0 = .ok (.aload_n 0, 1) := by decide +kernel
theorem d_m_readClass_1 : decode prog_14_method_18_code 1 = .ok (.invokevirtual 189, 3) := by decide +kernel
theorem d_m_readClass_4 : decode prog_14_method_18_code 4 = .ok (.istore_n 1, 1) := by decide +kernel
theorem d_m_readClass_5 : decode prog_14_method_18_code 5 = .ok (.iconst 4, 1) := by decide +kernel
theorem d_m_readClass_6 : decode prog_14_method_18_code 6 = .ok (.iload_n 1, 1) := by decide +kernel
theorem d_m_readClass_7 : decode prog_14_method_18_code 7 = .ok (.imul, 1) := by decide +kernel
theorem d_m_readClass_8 : decode prog_14_method_18_code 8 = .ok (.aload_n 0, 1) := by decide +kernel
theorem d_m_readClass_9 : decode prog_14_method_18_code 9 = .ok (.getfield 17, 3) := by decide +kernel
theorem d_m_readClass_12 : decode prog_14_method_18_code 12 = .ok (.iconst 5, 1) := by decide +kernel
theorem d_m_readClass_13 : decode prog_14_method_18_code 13 = .ok (.iload_n 1, 1) := by decide +kernel
theorem d_m_readClass_14 : decode prog_14_method_18_code 14 = .ok (.imul, 1) := by decide +kernel
theorem d_m_readClass_15 : decode prog_14_method_18_code 15 = .ok (.iconst 2, 1) := by decide +kernel
theorem d_m_readClass_16 : decode prog_14_method_18_code 16 = .ok (.iadd, 1) := by decide +kernel
theorem d_m_readClass_17 : decode prog_14_method_18_code 17 = .ok (.iaload, 1) := by decide +kernel
theorem d_m_readClass_18 : decode prog_14_method_18_code 18 = .ok (.iadd, 1) := by decide +kernel
theorem d_m_readClass_19 : decode prog_14_method_18_code 19 = .ok (.istore_n 2, 1) := by decide +kernel
theorem d_m_readClass_20 : decode prog_14_method_18_code 20 = .ok (.aload_n 0, 1) := by decide +kernel
theorem d_m_readClass_21 : decode prog_14_method_18_code 21 = .ok (.iconst 2, 1) := by decide +kernel
theorem d_m_readClass_22 : decode prog_14_method_18_code 22 = .ok (.aload_n 0, 1) := by decide +kernel
theorem d_m_readClass_23 : decode prog_14_method_18_code 23 = .ok (.getfield 27, 3) := by decide +kernel
theorem d_m_readClass_26 : decode prog_14_method_18_code 26 = .ok (.iconst 4, 1) := by decide +kernel
theorem d_m_readClass_27 : decode prog_14_method_18_code 27 = .ok (.iload_n 1, 1) := by decide +kernel
theorem d_m_readClass_28 : decode prog_14_method_18_code 28 = .ok (.imul, 1) := by decide +kernel
theorem d_m_readClass_29 : decode prog_14_method_18_code 29 = .ok (.iconst 4, 1) := by decide +kernel
theorem d_m_readClass_30 : decode prog_14_method_18_code 30 = .ok (.invokevirtual 208, 3) := by decide +kernel
theorem d_m_readClass_33 : decode prog_14_method_18_code 33 = .ok (.aload_n 0, 1) := by decide +kernel
theorem d_m_readClass_34 : decode prog_14_method_18_code 34 = .ok (.bipush 123, 2) := by decide +kernel
theorem d_m_readClass_36 : decode prog_14_method_18_code 36 = .ok (.invokevirtual 212, 3) := by decide +kernel
theorem d_m_readClass_39 : decode prog_14_method_18_code 39 = .ok (.aload_n 0, 1) := by decide +kernel
theorem d_m_readClass_40 : decode prog_14_method_18_code 40 = .ok (.getfield 109, 3) := by decide +kernel
theorem d_m_readClass_43 : decode prog_14_method_18_code 43 = .ok (.ifCond .eq 4, 3) := by decide +kernel
theorem d_m_readClass_46 : decode prog_14_method_18_code 46 = .ok (.return_, 1) := by decide +kernel
theorem d_m_readClass_47 : decode prog_14_method_18_code 47 = .ok (.aload_n 0, 1) := by decide +kernel
theorem d_m_readClass_48 : decode prog_14_method_18_code 48 = .ok (.getfield 39, 3) := by decide +kernel
theorem d_m_readClass_51 : decode prog_14_method_18_code 51 = .ok (.iload_n 2, 1) := by decide +kernel
theorem d_m_readClass_52 : decode prog_14_method_18_code 52 = .ok (.iconst 0, 1) := by decide +kernel
theorem d_m_readClass_53 : decode prog_14_method_18_code 53 = .ok (.iastore, 1) := by decide +kernel
theorem d_m_readClass_54 : decode prog_14_method_18_code 54 = .ok (.aload_n 0, 1) := by decide +kernel
theorem d_m_readClass_55 : decode prog_14_method_18_code 55 = .ok (.getfield 109, 3) := by decide +kernel
theorem d_m_readClass_58 : decode prog_14_method_18_code 58 = .ok (.ifCond .ne 129, 3) := by decide +kernel
theorem d_m_readClass_61 : decode prog_14_method_18_code 61 = .ok (.aload_n 0, 1) := by decide +kernel
theorem d_m_readClass_62 : decode prog_14_method_18_code 62 = .ok (.getfield 39, 3) := by decide +kernel
theorem d_m_readClass_65 : decode prog_14_method_18_code 65 = .ok (.iload_n 2, 1) := by decide +kernel
theorem d_m_readClass_66 : decode prog_14_method_18_code 66 = .ok (.iaload, 1) := by decide +kernel
theorem d_m_readClass_67 : decode prog_14_method_18_code 67 = .ok (.ifCond .eq 12, 3) := by decide +kernel
theorem d_m_readClass_70 : decode prog_14_method_18_code 70 = .ok (.aload_n 0, 1) := by decide +kernel
theorem d_m_readClass_71 : decode prog_14_method_18_code 71 = .ok (.bipush 125, 2) := by decide +kernel
theorem d_m_readClass_73 : decode prog_14_method_18_code 73 = .ok (.invokevirtual 145, 3) := by decide +kernel
theorem d_m_readClass_76 : decode prog_14_method_18_code 76 = .ok (.ifCond .ne 111, 3) := by decide +kernel
theorem d_m_readClass_79 : decode prog_14_method_18_code 79 = .ok (.aload_n 0, 1) := by decide +kernel
theorem d_m_readClass_80 : decode prog_14_method_18_code 80 = .ok (.invokevirtual 193, 3) := by decide +kernel
theorem d_m_readClass_83 : decode prog_14_method_18_code 83 = .ok (.ifCond .ne 4, 3) := by decide +kernel
theorem d_m_readClass_86 : decode prog_14_method_18_code 86 = .ok (.return_, 1) := by decide +kernel
theorem d_m_readClass_87 : decode prog_14_method_18_code 87 = .ok (.aload_n 0, 1) := by decide +kernel
theorem d_m_readClass_88 : decode prog_14_method_18_code 88 = .ok (.getfield 134, 3) := by decide +kernel
theorem d_m_readClass_91 : decode prog_14_method_18_code 91 = .ok (.invokestatic 197, 3) := by decide +kernel
theorem d_m_readClass_94 : decode prog_14_method_18_code 94 = .ok (.ifCond .ne 27, 3) := by decide +kernel
theorem d_m_readClass_97 : decode prog_14_method_18_code 97 = .ok (.aload_n 0, 1) := by decide +kernel
theorem d_m_readClass_98 : decode prog_14_method_18_code 98 = .ok (.getfield 30, 3) := by decide +kernel
theorem d_m_readClass_101 : decode prog_14_method_18_code 101 = .ok (.bipush 8, 2) := by decide +kernel
theorem d_m_readClass_103 : decode prog_14_method_18_code 103 = .ok (.iload_n 2, 1) := by decide +kernel
theorem d_m_readClass_104 : decode prog_14_method_18_code 104 = .ok (.imul, 1) := by decide +kernel
theorem d_m_readClass_105 : decode prog_14_method_18_code 105 = .ok (.aload_n 0, 1) := by decide +kernel
theorem d_m_readClass_106 : decode prog_14_method_18_code 106 = .ok (.getfield 39, 3) := by decide +kernel
theorem d_m_readClass_109 : decode prog_14_method_18_code 109 = .ok (.iload_n 2, 1) := by decide +kernel
theorem d_m_readClass_110 : decode prog_14_method_18_code 110 = .ok (.iaload, 1) := by decide +kernel
theorem d_m_readClass_111 : decode prog_14_method_18_code 111 = .ok (.aload_n 0, 1) := by decide +kernel
theorem d_m_readClass_112 : decode prog_14_method_18_code 112 = .ok (.getfield 134, 3) := by decide +kernel
theorem d_m_readClass_115 : decode prog_14_method_18_code 115 = .ok (.invokestatic 157, 3) := by decide +kernel
theorem d_m_readClass_118 : decode prog_14_method_18_code 118 = .ok (.ifCond .lt 8, 3) := by decide +kernel
theorem d_m_readClass_121 : decode prog_14_method_18_code 121 = .ok (.aload_n 0, 1) := by decide +kernel
theorem d_m_readClass_122 : decode prog_14_method_18_code 122 = .ok (.iconst 3, 1) := by decide +kernel
theorem d_m_readClass_123 : decode prog_14_method_18_code 123 = .ok (.invokevirtual 141, 3) := by decide +kernel
theorem d_m_readClass_126 : decode prog_14_method_18_code 126 = .ok (.aload_n 0, 1) := by decide +kernel
theorem d_m_readClass_127 : decode prog_14_method_18_code 127 = .ok (.getfield 39, 3) := by decide +kernel
theorem d_m_readClass_130 : decode prog_14_method_18_code 130 = .ok (.iload_n 2, 1) := by decide +kernel
theorem d_m_readClass_131 : decode prog_14_method_18_code 131 = .ok (.iaload, 1) := by decide +kernel
theorem d_m_readClass_132 : decode prog_14_method_18_code 132 = .ok (.bipush 8, 2) := by decide +kernel
theorem d_m_readClass_134 : decode prog_14_method_18_code 134 = .ok (.if_icmp .ne 8, 3) := by decide +kernel
theorem d_m_readClass_137 : decode prog_14_method_18_code 137 = .ok (.aload_n 0, 1) := by decide +kernel
theorem d_m_readClass_138 : decode prog_14_method_18_code 138 = .ok (.iconst 4, 1) := by decide +kernel
theorem d_m_readClass_139 : decode prog_14_method_18_code 139 = .ok (.invokevirtual 141, 3) := by decide +kernel
theorem d_m_readClass_142 : decode prog_14_method_18_code 142 = .ok (.aload_n 0, 1) := by decide +kernel
theorem d_m_readClass_143 : decode prog_14_method_18_code 143 = .ok (.getfield 109, 3) := by decide +kernel
theorem d_m_readClass_146 : decode prog_14_method_18_code 146 = .ok (.ifCond .eq 4, 3) := by decide +kernel
theorem d_m_readClass_149 : decode prog_14_method_18_code 149 = .ok (.return_, 1) := by decide +kernel
theorem d_m_readClass_150 : decode prog_14_method_18_code 150 = .ok (.aload_n 0, 1) := by decide +kernel
theorem d_m_readClass_151 : decode prog_14_method_18_code 151 = .ok (.getfield 30, 3) := by decide +kernel
theorem d_m_readClass_154 : decode prog_14_method_18_code 154 = .ok (.bipush 8, 2) := by decide +kernel
theorem d_m_readClass_156 : decode prog_14_method_18_code 156 = .ok (.iload_n 2, 1) := by decide +kernel
theorem d_m_readClass_157 : decode prog_14_method_18_code 157 = .ok (.imul, 1) := by decide +kernel
theorem d_m_readClass_158 : decode prog_14_method_18_code 158 = .ok (.aload_n 0, 1) := by decide +kernel
theorem d_m_readClass_159 : decode prog_14_method_18_code 159 = .ok (.getfield 39, 3) := by decide +kernel
theorem d_m_readClass_162 : decode prog_14_method_18_code 162 = .ok (.iload_n 2, 1) := by decide +kernel
theorem d_m_readClass_163 : decode prog_14_method_18_code 163 = .ok (.iaload, 1) := by decide +kernel
theorem d_m_readClass_164 : decode prog_14_method_18_code 164 = .ok (.iadd, 1) := by decide +kernel
theorem d_m_readClass_165 : decode prog_14_method_18_code 165 = .ok (.aload_n 0, 1) := by decide +kernel
theorem d_m_readClass_166 : decode prog_14_method_18_code 166 = .ok (.getfield 134, 3) := by decide +kernel
theorem d_m_readClass_169 : decode prog_14_method_18_code 169 = .ok (.lastore, 1) := by decide +kernel
theorem d_m_readClass_170 : decode prog_14_method_18_code 170 = .ok (.aload_n 0, 1) := by decide +kernel
theorem d_m_readClass_171 : decode prog_14_method_18_code 171 = .ok (.getfield 39, 3) := by decide +kernel
theorem d_m_readClass_174 : decode prog_14_method_18_code 174 = .ok (.iload_n 2, 1) := by decide +kernel
theorem d_m_readClass_175 : decode prog_14_method_18_code 175 = .ok (.dup2, 1) := by decide +kernel
theorem d_m_readClass_176 : decode prog_14_method_18_code 176 = .ok (.iaload, 1) := by decide +kernel
theorem d_m_readClass_177 : decode prog_14_method_18_code 177 = .ok (.iconst 1, 1) := by decide +kernel
theorem d_m_readClass_178 : decode prog_14_method_18_code 178 = .ok (.iadd, 1) := by decide +kernel
theorem d_m_readClass_179 : decode prog_14_method_18_code 179 = .ok (.iastore, 1) := by decide +kernel
theorem d_m_readClass_180 : decode prog_14_method_18_code 180 = .ok (.aload_n 0, 1) := by decide +kernel
theorem d_m_readClass_181 : decode prog_14_method_18_code 181 = .ok (.invokevirtual 148, 3) := by decide +kernel
theorem d_m_readClass_184 : decode prog_14_method_18_code 184 = .ok (.goto (-130), 3) := by decide +kernel
theorem d_m_readClass_187 : decode prog_14_method_18_code 187 = .ok (.aload_n 0, 1) := by decide +kernel
theorem d_m_readClass_188 : decode prog_14_method_18_code 188 = .ok (.bipush 125, 2) := by decide +kernel
theorem d_m_readClass_190 : decode prog_14_method_18_code 190 = .ok (.invokevirtual 212, 3) := by decide +kernel
theorem d_m_readClass_193 : decode prog_14_method_18_code 193 = .ok (.aload_n 0, 1) := by decide +kernel
theorem d_m_readClass_194 : decode prog_14_method_18_code 194 = .ok (.bipush 59, 2) := by decide +kernel
theorem d_m_readClass_196 : decode prog_14_method_18_code 196 = .ok (.invokevirtual 212, 3) := by decide +kernel
theorem d_m_readClass_199 : decode prog_14_method_18_code 199 = .ok (.return_, 1) := by decide +kernel
def m_readClass_J142 (kO54 : MS → Option MS) (v2_142 : Int32) (S_142 : MS) : Option MS := (if (gI S_142 0 7) = 0 then (if inbd v2_142 8 = true then (if inbd ((8 * v2_142) + (gI S_142 9 (txN v2_142))) 64 = true then (bd (pL S_142 6 (txN ((8 * v2_142) + (gI S_142 9 (txN v2_142)))) (gL S_142 0 11)) fun S169 => (if inbd v2_142 8 = true then (if inbd v2_142 8 = true then (bd (pI S169 9 (txN v2_142) ((gI S169 9 (txN v2_142)) + 1)) fun S179 => ((m_next S179).bind fun q181 => kO54 q181)) else none) else none)) else none) else none) else some S_142)
def m_readClass_J126 (kO54 : MS → Option MS) (v2_126 : Int32) (S_126 : MS) : Option MS := (if inbd v2_126 8 = true then (if (gI S_126 9 (txN v2_126)) = 8 then ((m_fail 4 S_126).bind fun q139 => m_readClass_J142 kO54 v2_126 q139) else m_readClass_J142 kO54 v2_126 S_126) else none)
def m_readClass_J121 (kO54 : MS → Option MS) (v2_121 : Int32) (S_121 : MS) : Option MS := ((m_fail 3 S_121).bind fun q123 => m_readClass_J126 kO54 v2_121 q123)
def m_readClass_J79 (kO54 : MS → Option MS) (v2_79 : Int32) (S_79 : MS) : Option MS := ((m_isName S_79).bind fun q80 => (if q80.2 = true then ((m_isWord (gL q80.1 0 11)).bind fun q91 => (if q91 = true then m_readClass_J121 kO54 v2_79 q80.1 else (if inbd v2_79 8 = true then ((m_find 6 (8 * v2_79) (gI q80.1 9 (txN v2_79)) (gL q80.1 0 11) q80.1).bind fun q115 => (if q115 < 0 then m_readClass_J126 kO54 v2_79 q80.1 else m_readClass_J121 kO54 v2_79 q80.1)) else none))) else some q80.1))
def m_readClass_J187 (S_187 : MS) : Option MS := ((m_must 125 S_187).bind fun q190 => ((m_must 59 q190).bind fun q196 => some q196))
def m_readClass_L54 (v2_54 : Int32) : Nat → MS → Option MS
  | 0, _ => none
  | n + 1, S_54 => (if (gI S_54 0 7) = 0 then (if inbd v2_54 8 = true then (if (gI S_54 9 (txN v2_54)) = 0 then m_readClass_J79 (m_readClass_L54 v2_54 n) v2_54 S_54 else ((m_is 125 S_54).bind fun q73 => (if q73 = true then m_readClass_J187 S_54 else m_readClass_J79 (m_readClass_L54 v2_54 n) v2_54 S_54))) else none) else m_readClass_J187 S_54)
def m_readClass (S : MS) : Option MS := ((m_own S).bind fun q1 => (if inbd ((5 * q1) + 2) 10 = true then (bd (((4 * q1) + (gI S 2 (txN ((5 * q1) + 2))))) fun a19 => ((m_declare 2 5 (4 * q1) 4 S).bind fun q30 => ((m_must 123 q30).bind fun q36 => (if (gI q36 0 7) = 0 then (if inbd a19 8 = true then (bd (pI q36 9 (txN a19) 0) fun S53 => m_readClass_L54 a19 600 S53) else none) else some q36)))) else none))
set_option maxHeartbeats 4000000 in
set_option maxRecDepth 100000 in
theorem M_m_readClass {l : Launch} {D : va_G} {cA : Nat → ClassId} {b : Nat} {ad : Nat → Nat}  {S : MS} {T : CS} {o : Nat → Int64} {rr : MS}  (h : m_readClass  S = some rr) : Met l y_m_readClass (Cond.code y_m_readClass prog_14_method_18_code 3 (Option.none : Option Jvm.ClassFile.FieldType) :: TW) { frames := 5, cells := 0, slots := 0, locals := 105 } (va_Pc [.ref (b + 262)] (Rp D cA b ad (T, S, o))) (Qr D cA b ad (T, rr, o) none) 0 0 (Ab b) := by
  refine Ct_of (by decide) (Nat.le_of_ble_eq_true rfl) ?_
  intro p e R s m args below meth c ls Q H locs hR hQ hx hb hts hown hml hr hlk hC hX hS hl
  have hRf : R.frames = 5 := by rw [hR]
  have hRl : R.locals = 105 := by rw [hR]
  have hown : s.vm.findClass "TypeGuardModel" = some m.cls := hown
  have hl : lv_has ls 3 [(0, .ref (b + 262))] := hl
  rw [m_readClass] at h
  refine lv_aload_n hx hb d_m_readClass_0 rfl (lv_at hl 0 rfl) ?_
  obtain ⟨q1, hc1, h⟩ := Option.bind_eq_some_iff.mp h
  refine ck_V (As := []) (rest := []) (st1 := [.int q1]) (M_m_own  hc1) t_1145 t_1147 p_38 t_1148 t_13 hx hb hts hown hC hX hS (hrc_m0 hC hX (by rfl)) hml hl.1 ⟨by rw [hRf]; decide, by rw [hRl]; decide⟩ ⟨rfl, rfl⟩ (n := 0) (by decide +kernel) rfl rfl rfl (lv_room (Nat.le_of_ble_eq_true rfl)) d_m_readClass_1 (fun H locs hX hS => ?_)
  refine lv_istore_n (lv' := [(1, .int q1), (0, .ref (b + 262))]) hx hb d_m_readClass_4 rfl hl (by decide) rfl (fun ls hl => ?_)
  refine lv_iconst (v := 4) hx hb d_m_readClass_5 (by decide) ?_
  refine lv_iload_n hx hb d_m_readClass_6 rfl (lv_at hl 0 rfl) ?_
  refine lv_imul hx hb d_m_readClass_7 ?_
  refine lv_aload_n hx hb d_m_readClass_8 rfl (lv_at hl 1 rfl) ?_
  refine m_get_0_13 hx hb hts hown hC hX (by rfl) (hts _ t_1000) d_m_readClass_9 ?_
  refine lv_iconst (v := 5) hx hb d_m_readClass_12 (by decide) ?_
  refine lv_iload_n hx hb d_m_readClass_13 rfl (lv_at hl 0 rfl) ?_
  refine lv_imul hx hb d_m_readClass_14 ?_
  refine lv_iconst (v := 2) hx hb d_m_readClass_15 (by decide) ?_
  refine lv_iadd hx hb d_m_readClass_16 ?_
  by_cases hg17 : inbd ((5 * q1) + 2) 10 = true
  rotate_left; · rw [if_neg hg17] at h; cases h
  rw [if_pos hg17] at h
  refine m_ald_1 (k := 2) hx hb hC hX (by rfl) hg17 d_m_readClass_17 ?_
  refine lv_iadd hx hb d_m_readClass_18 ?_
  obtain ⟨a19, e19, h⟩ := bd_some h
  refine lt_I e19 ?_
  refine lv_istore_n (lv' := [(2, .int a19), (1, .int q1), (0, .ref (b + 262))]) hx hb d_m_readClass_19 rfl hl (by decide) rfl (fun ls hl => ?_)
  refine lv_aload_n hx hb d_m_readClass_20 rfl (lv_at hl 2 rfl) ?_
  refine lv_iconst (v := 2) hx hb d_m_readClass_21 (by decide) ?_
  refine lv_aload_n hx hb d_m_readClass_22 rfl (lv_at hl 2 rfl) ?_
  refine m_get_0_16 hx hb hts hown hC hX (by rfl) (hts _ t_1003) d_m_readClass_23 ?_
  refine lv_iconst (v := 4) hx hb d_m_readClass_26 (by decide) ?_
  refine lv_iload_n hx hb d_m_readClass_27 rfl (lv_at hl 1 rfl) ?_
  refine lv_imul hx hb d_m_readClass_28 ?_
  refine lv_iconst (v := 4) hx hb d_m_readClass_29 (by decide) ?_
  obtain ⟨q30, hc30, h⟩ := Option.bind_eq_some_iff.mp h
  refine ck_V (As := [.int 2, .ref (b + 267), .int (4 * q1), .int 4]) (rest := []) (st1 := []) (M_m_declare (by rfl) hc30) t_1238 t_1240 p_55 t_1241 t_13 hx hb hts hown hC hX hS (hrc_m0 hC hX (by rfl)) hml hl.1 ⟨by rw [hRf]; decide, by rw [hRl]; decide⟩ ⟨rfl, rfl⟩ (n := 4) (by decide +kernel) rfl rfl rfl (lv_room (Nat.le_of_ble_eq_true rfl)) d_m_readClass_30 (fun H locs hX hS => ?_)
  refine lv_aload_n hx hb d_m_readClass_33 rfl (lv_at hl 2 rfl) ?_
  refine lv_bipush (v := 123) hx hb d_m_readClass_34 (by decide) ?_
  obtain ⟨q36, hc36, h⟩ := Option.bind_eq_some_iff.mp h
  refine ck_V (As := [.int 123]) (rest := []) (st1 := []) (M_m_must  hc36) t_1213 t_1215 p_49 t_1216 t_13 hx hb hts hown hC hX hS (hrc_m0 hC hX (by rfl)) hml hl.1 ⟨by rw [hRf]; decide, by rw [hRl]; decide⟩ ⟨rfl, rfl⟩ (n := 1) (by decide +kernel) rfl rfl rfl (lv_room (Nat.le_of_ble_eq_true rfl)) d_m_readClass_36 (fun H locs hX hS => ?_)
  refine lv_aload_n hx hb d_m_readClass_39 rfl (lv_at hl 2 rfl) ?_
  refine m_get_0_7 hx hb hts hown hC hX (by rfl) (hts _ t_994) d_m_readClass_40 ?_
  refine lv_if_eq hx hb d_m_readClass_43 (tgt := 47) (by decide) (fun hc => ?_) (fun hc => ?_)
  · rw [if_pos hc] at h
    refine lv_aload_n hx hb d_m_readClass_47 rfl (lv_at hl 2 rfl) ?_
    refine m_get_0_20 hx hb hts hown hC hX (by rfl) (hts _ t_1007) d_m_readClass_48 ?_
    refine lv_iload_n hx hb d_m_readClass_51 rfl (lv_at hl 0 rfl) ?_
    refine lv_iconst (v := 0) hx hb d_m_readClass_52 (by decide) ?_
    by_cases hg53 : inbd a19 8 = true
    rotate_left; · rw [if_neg hg53] at h; cases h
    rw [if_pos hg53] at h
    refine m_ast_1 (k := 9) (v := 0) hx hb hC hX hS (by rfl) hg53 d_m_readClass_53 (fun H locs hX hS => ?_)
    obtain ⟨S53, e53, h⟩ := bd_some h
    rw [← e53] at hX
    have L54 : ∀ (n54 : Nat) (S_54 : MS) (H : Heap) (locs : List Loc) (ls : Array Slot), hp D cA b ad (T, S_54, o) H → va_S (Ab b) s.heap H locs → lv_has ls 3 [(0, .ref (b + 262)), (2, .int a19)] → m_readClass_L54 a19 n54 S_54 = some rr → W p l e R s m args below meth c H locs 0 0 Q (F0 m 54 ls []) := by
      intro n54; induction n54 with
      | zero => intro S_54 H locs ls  hX hS hl h; rw [m_readClass_L54] at h; cases h
      | succ n54 ih54 =>
        intro S_54 H locs ls  hX hS hl h
        rw [m_readClass_L54] at h
        refine lv_aload_n hx hb d_m_readClass_54 rfl (lv_at hl 0 rfl) ?_
        refine m_get_0_7 hx hb hts hown hC hX (by rfl) (hts _ t_994) d_m_readClass_55 ?_
        have J187 : ∀  (H : Heap) (locs : List Loc) (ls : Array Slot), hp D cA b ad (T, S_54, o) H → va_S (Ab b) s.heap H locs → lv_has ls 3 [(0, .ref (b + 262))] → m_readClass_J187 S_54 = some rr → W p l e R s m args below meth c H locs 0 0 Q (F0 m 187 ls []) := by
          intro  H locs ls  hX hS hl h
          rw [m_readClass_J187] at h
          refine lv_aload_n hx hb d_m_readClass_187 rfl (lv_at hl 0 rfl) ?_
          refine lv_bipush (v := 125) hx hb d_m_readClass_188 (by decide) ?_
          obtain ⟨q190, hc190, h⟩ := Option.bind_eq_some_iff.mp h
          refine ck_V (As := [.int 125]) (rest := []) (st1 := []) (M_m_must  hc190) t_1213 t_1215 p_49 t_1216 t_13 hx hb hts hown hC hX hS (hrc_m0 hC hX (by rfl)) hml hl.1 ⟨by rw [hRf]; decide, by rw [hRl]; decide⟩ ⟨rfl, rfl⟩ (n := 1) (by decide +kernel) rfl rfl rfl (lv_room (Nat.le_of_ble_eq_true rfl)) d_m_readClass_190 (fun H locs hX hS => ?_)
          refine lv_aload_n hx hb d_m_readClass_193 rfl (lv_at hl 0 rfl) ?_
          refine lv_bipush (v := 59) hx hb d_m_readClass_194 (by decide) ?_
          obtain ⟨q196, hc196, h⟩ := Option.bind_eq_some_iff.mp h
          refine ck_V (As := [.int 59]) (rest := []) (st1 := []) (M_m_must  hc196) t_1213 t_1215 p_49 t_1216 t_13 hx hb hts hown hC hX hS (hrc_m0 hC hX (by rfl)) hml hl.1 ⟨by rw [hRf]; decide, by rw [hRl]; decide⟩ ⟨rfl, rfl⟩ (n := 1) (by decide +kernel) rfl rfl rfl (lv_room (Nat.le_of_ble_eq_true rfl)) d_m_readClass_196 (fun H locs hX hS => ?_)
          obtain rfl := Option.some.inj h
          exact rt_v hQ hx hb hr hX hS hlk d_m_readClass_199
        refine lv_if_ne hx hb d_m_readClass_58 (tgt := 187) (by decide) (fun hc => ?_) (fun hc => ?_)
        · rw [if_neg hc] at h
          exact J187  H locs ls  hX hS (lv_sub hl [0] rfl) h
        · rw [if_pos hc] at h
          refine lv_aload_n hx hb d_m_readClass_61 rfl (lv_at hl 0 rfl) ?_
          refine m_get_0_20 hx hb hts hown hC hX (by rfl) (hts _ t_1007) d_m_readClass_62 ?_
          refine lv_iload_n hx hb d_m_readClass_65 rfl (lv_at hl 1 rfl) ?_
          by_cases hg66 : inbd a19 8 = true
          rotate_left; · rw [if_neg hg66] at h; cases h
          rw [if_pos hg66] at h
          refine m_ald_1 (k := 9) hx hb hC hX (by rfl) hg66 d_m_readClass_66 ?_
          have J79 : ∀  (H : Heap) (locs : List Loc) (ls : Array Slot), hp D cA b ad (T, S_54, o) H → va_S (Ab b) s.heap H locs → lv_has ls 3 [(0, .ref (b + 262)), (2, .int a19)] → m_readClass_J79 (m_readClass_L54 a19 n54) a19 S_54 = some rr → W p l e R s m args below meth c H locs 0 0 Q (F0 m 79 ls []) := by
            intro  H locs ls  hX hS hl h
            rw [m_readClass_J79] at h
            refine lv_aload_n hx hb d_m_readClass_79 rfl (lv_at hl 0 rfl) ?_
            obtain ⟨q80, hc80, h⟩ := Option.bind_eq_some_iff.mp h
            refine ck_V (As := []) (rest := []) (st1 := [.int (bI q80.2)]) (M_m_isName  hc80) t_1202 t_1204 p_47 t_1205 t_13 hx hb hts hown hC hX hS (hrc_m0 hC hX (by rfl)) hml hl.1 ⟨by rw [hRf]; decide, by rw [hRl]; decide⟩ ⟨rfl, rfl⟩ (n := 0) (by decide +kernel) rfl rfl rfl (lv_room (Nat.le_of_ble_eq_true rfl)) d_m_readClass_80 (fun H locs hX hS => ?_)
            refine lz_ifne hx hb d_m_readClass_83 (tgt := 87) (by decide) (fun hc => ?_) (fun hc => ?_)
            · rw [if_pos hc] at h
              refine lv_aload_n hx hb d_m_readClass_87 rfl (lv_at hl 0 rfl) ?_
              refine m_get_0_11 hx hb hts hown hC hX (by rfl) (hts _ t_998) d_m_readClass_88 ?_
              obtain ⟨q91, hc91, h⟩ := Option.bind_eq_some_iff.mp h
              refine ck_S (As := [.long (gL q80.1 0 11)]) (rest := []) (st1 := [.int (bI q91)]) (M_m_isWord  hc91) t_1242 t_1243 t_1244 t_13 hx hb hts hown hC hX hS  hml hl.1 ⟨by rw [hRf]; decide, by rw [hRl]; decide⟩ ⟨rfl, rfl⟩ (n := 1) (by decide +kernel) rfl rfl rfl (lv_room (Nat.le_of_ble_eq_true rfl)) d_m_readClass_91 (fun H locs hX hS => ?_)
              have J126 : ∀ (S_126 : MS) (H : Heap) (locs : List Loc) (ls : Array Slot), hp D cA b ad (T, S_126, o) H → va_S (Ab b) s.heap H locs → lv_has ls 3 [(0, .ref (b + 262)), (2, .int a19)] → m_readClass_J126 (m_readClass_L54 a19 n54) a19 S_126 = some rr → W p l e R s m args below meth c H locs 0 0 Q (F0 m 126 ls []) := by
                intro S_126 H locs ls  hX hS hl h
                rw [m_readClass_J126] at h
                refine lv_aload_n hx hb d_m_readClass_126 rfl (lv_at hl 0 rfl) ?_
                refine m_get_0_20 hx hb hts hown hC hX (by rfl) (hts _ t_1007) d_m_readClass_127 ?_
                refine lv_iload_n hx hb d_m_readClass_130 rfl (lv_at hl 1 rfl) ?_
                by_cases hg131 : inbd a19 8 = true
                rotate_left; · rw [if_neg hg131] at h; cases h
                rw [if_pos hg131] at h
                refine m_ald_1 (k := 9) hx hb hC hX (by rfl) hg131 d_m_readClass_131 ?_
                refine lv_bipush (v := 8) hx hb d_m_readClass_132 (by decide) ?_
                have J142 : ∀ (S_142 : MS) (H : Heap) (locs : List Loc) (ls : Array Slot), hp D cA b ad (T, S_142, o) H → va_S (Ab b) s.heap H locs → lv_has ls 3 [(0, .ref (b + 262)), (2, .int a19)] → m_readClass_J142 (m_readClass_L54 a19 n54) a19 S_142 = some rr → W p l e R s m args below meth c H locs 0 0 Q (F0 m 142 ls []) := by
                  intro S_142 H locs ls  hX hS hl h
                  rw [m_readClass_J142] at h
                  refine lv_aload_n hx hb d_m_readClass_142 rfl (lv_at hl 0 rfl) ?_
                  refine m_get_0_7 hx hb hts hown hC hX (by rfl) (hts _ t_994) d_m_readClass_143 ?_
                  refine lv_if_eq hx hb d_m_readClass_146 (tgt := 150) (by decide) (fun hc => ?_) (fun hc => ?_)
                  · rw [if_pos hc] at h
                    refine lv_aload_n hx hb d_m_readClass_150 rfl (lv_at hl 0 rfl) ?_
                    refine m_get_0_17 hx hb hts hown hC hX (by rfl) (hts _ t_1004) d_m_readClass_151 ?_
                    refine lv_bipush (v := 8) hx hb d_m_readClass_154 (by decide) ?_
                    refine lv_iload_n hx hb d_m_readClass_156 rfl (lv_at hl 1 rfl) ?_
                    refine lv_imul hx hb d_m_readClass_157 ?_
                    refine lv_aload_n hx hb d_m_readClass_158 rfl (lv_at hl 0 rfl) ?_
                    refine m_get_0_20 hx hb hts hown hC hX (by rfl) (hts _ t_1007) d_m_readClass_159 ?_
                    refine lv_iload_n hx hb d_m_readClass_162 rfl (lv_at hl 1 rfl) ?_
                    by_cases hg163 : inbd a19 8 = true
                    rotate_left; · rw [if_neg hg163] at h; cases h
                    rw [if_pos hg163] at h
                    refine m_ald_1 (k := 9) hx hb hC hX (by rfl) hg163 d_m_readClass_163 ?_
                    refine lv_iadd hx hb d_m_readClass_164 ?_
                    refine lv_aload_n hx hb d_m_readClass_165 rfl (lv_at hl 0 rfl) ?_
                    refine m_get_0_11 hx hb hts hown hC hX (by rfl) (hts _ t_998) d_m_readClass_166 ?_
                    by_cases hg169 : inbd ((8 * a19) + (gI S_142 9 (txN a19))) 64 = true
                    rotate_left; · rw [if_neg hg169] at h; cases h
                    rw [if_pos hg169] at h
                    refine m_ast_2 (k := 6) (v := (gL S_142 0 11)) hx hb hC hX hS (by rfl) hg169 d_m_readClass_169 (fun H locs hX hS => ?_)
                    obtain ⟨S169, e169, h⟩ := bd_some h
                    rw [← e169] at hX
                    refine lv_aload_n hx hb d_m_readClass_170 rfl (lv_at hl 0 rfl) ?_
                    refine m_get_0_20 hx hb hts hown hC hX (by rfl) (hts _ t_1007) d_m_readClass_171 ?_
                    refine lv_iload_n hx hb d_m_readClass_174 rfl (lv_at hl 1 rfl) ?_
                    refine lv_dup2_11 hx hb d_m_readClass_175 rfl rfl ?_
                    by_cases hg176 : inbd a19 8 = true
                    rotate_left; · rw [if_neg hg176] at h; cases h
                    rw [if_pos hg176] at h
                    refine m_ald_1 (k := 9) hx hb hC hX (by rfl) hg176 d_m_readClass_176 ?_
                    refine lv_iconst (v := 1) hx hb d_m_readClass_177 (by decide) ?_
                    refine lv_iadd hx hb d_m_readClass_178 ?_
                    by_cases hg179 : inbd a19 8 = true
                    rotate_left; · rw [if_neg hg179] at h; cases h
                    rw [if_pos hg179] at h
                    refine m_ast_1 (k := 9) (v := ((gI S169 9 (txN a19)) + 1)) hx hb hC hX hS (by rfl) hg179 d_m_readClass_179 (fun H locs hX hS => ?_)
                    obtain ⟨S179, e179, h⟩ := bd_some h
                    rw [← e179] at hX
                    refine lv_aload_n hx hb d_m_readClass_180 rfl (lv_at hl 0 rfl) ?_
                    obtain ⟨q181, hc181, h⟩ := Option.bind_eq_some_iff.mp h
                    refine ck_V (As := []) (rest := []) (st1 := []) (M_m_next  hc181) t_1149 t_1151 p_39 t_1152 t_13 hx hb hts hown hC hX hS (hrc_m0 hC hX (by rfl)) hml hl.1 ⟨by rw [hRf]; decide, by rw [hRl]; decide⟩ ⟨rfl, rfl⟩ (n := 0) (by decide +kernel) rfl rfl rfl (lv_room (Nat.le_of_ble_eq_true rfl)) d_m_readClass_181 (fun H locs hX hS => ?_)
                    refine lv_goto hx hb d_m_readClass_184 (tgt := 54) (by decide) ?_
                    exact ih54 q181 H locs ls  hX hS (lv_sub hl [0, 1] rfl) h
                  · rw [if_neg hc] at h
                    obtain rfl := Option.some.inj h
                    exact rt_v hQ hx hb hr hX hS hlk d_m_readClass_149
                refine lv_icmp_ne hx hb d_m_readClass_134 (tgt := 142) (by decide) (fun hc => ?_) (fun hc => ?_)
                · rw [if_neg hc] at h
                  exact J142 S_126 H locs ls  hX hS (lv_sub hl [0, 1] rfl) h
                · rw [if_pos hc] at h
                  refine lv_aload_n hx hb d_m_readClass_137 rfl (lv_at hl 0 rfl) ?_
                  refine lv_iconst (v := 4) hx hb d_m_readClass_138 (by decide) ?_
                  obtain ⟨q139, hc139, h⟩ := Option.bind_eq_some_iff.mp h
                  refine ck_V (As := [.int 4]) (rest := []) (st1 := []) (M_m_fail  hc139) t_1159 t_1161 p_40 t_1162 t_13 hx hb hts hown hC hX hS (hrc_m0 hC hX (by rfl)) hml hl.1 ⟨by rw [hRf]; decide, by rw [hRl]; decide⟩ ⟨rfl, rfl⟩ (n := 1) (by decide +kernel) rfl rfl rfl (lv_room (Nat.le_of_ble_eq_true rfl)) d_m_readClass_139 (fun H locs hX hS => ?_)
                  exact J142 q139 H locs ls  hX hS (lv_sub hl [0, 1] rfl) h
              have J121 : ∀  (H : Heap) (locs : List Loc) (ls : Array Slot), hp D cA b ad (T, q80.1, o) H → va_S (Ab b) s.heap H locs → lv_has ls 3 [(0, .ref (b + 262)), (2, .int a19)] → m_readClass_J121 (m_readClass_L54 a19 n54) a19 q80.1 = some rr → W p l e R s m args below meth c H locs 0 0 Q (F0 m 121 ls []) := by
                intro  H locs ls  hX hS hl h
                rw [m_readClass_J121] at h
                refine lv_aload_n hx hb d_m_readClass_121 rfl (lv_at hl 0 rfl) ?_
                refine lv_iconst (v := 3) hx hb d_m_readClass_122 (by decide) ?_
                obtain ⟨q123, hc123, h⟩ := Option.bind_eq_some_iff.mp h
                refine ck_V (As := [.int 3]) (rest := []) (st1 := []) (M_m_fail  hc123) t_1159 t_1161 p_40 t_1162 t_13 hx hb hts hown hC hX hS (hrc_m0 hC hX (by rfl)) hml hl.1 ⟨by rw [hRf]; decide, by rw [hRl]; decide⟩ ⟨rfl, rfl⟩ (n := 1) (by decide +kernel) rfl rfl rfl (lv_room (Nat.le_of_ble_eq_true rfl)) d_m_readClass_123 (fun H locs hX hS => ?_)
                exact J126 q123 H locs ls  hX hS (lv_sub hl [0, 1] rfl) h
              refine lz_ifne hx hb d_m_readClass_94 (tgt := 121) (by decide) (fun hc => ?_) (fun hc => ?_)
              · rw [if_pos hc] at h
                exact J121  H locs ls  hX hS (lv_sub hl [0, 1] rfl) h
              · rw [if_neg hc] at h
                refine lv_aload_n hx hb d_m_readClass_97 rfl (lv_at hl 0 rfl) ?_
                refine m_get_0_17 hx hb hts hown hC hX (by rfl) (hts _ t_1004) d_m_readClass_98 ?_
                refine lv_bipush (v := 8) hx hb d_m_readClass_101 (by decide) ?_
                refine lv_iload_n hx hb d_m_readClass_103 rfl (lv_at hl 1 rfl) ?_
                refine lv_imul hx hb d_m_readClass_104 ?_
                refine lv_aload_n hx hb d_m_readClass_105 rfl (lv_at hl 0 rfl) ?_
                refine m_get_0_20 hx hb hts hown hC hX (by rfl) (hts _ t_1007) d_m_readClass_106 ?_
                refine lv_iload_n hx hb d_m_readClass_109 rfl (lv_at hl 1 rfl) ?_
                by_cases hg110 : inbd a19 8 = true
                rotate_left; · rw [if_neg hg110] at h; cases h
                rw [if_pos hg110] at h
                refine m_ald_1 (k := 9) hx hb hC hX (by rfl) hg110 d_m_readClass_110 ?_
                refine lv_aload_n hx hb d_m_readClass_111 rfl (lv_at hl 0 rfl) ?_
                refine m_get_0_11 hx hb hts hown hC hX (by rfl) (hts _ t_998) d_m_readClass_112 ?_
                obtain ⟨q115, hc115, h⟩ := Option.bind_eq_some_iff.mp h
                refine ck_S (As := [.ref (b + 268), .int (8 * a19), .int (gI q80.1 9 (txN a19)), .long (gL q80.1 0 11)]) (rest := []) (st1 := [.int q115]) (M_m_find (by rfl) hc115) t_1210 t_1211 t_1212 t_13 hx hb hts hown hC hX hS  hml hl.1 ⟨by rw [hRf]; decide, by rw [hRl]; decide⟩ ⟨rfl, rfl⟩ (n := 4) (by decide +kernel) rfl rfl rfl (lv_room (Nat.le_of_ble_eq_true rfl)) d_m_readClass_115 (fun H locs hX hS => ?_)
                refine lv_if_lt hx hb d_m_readClass_118 (tgt := 126) (by decide) (fun hc => ?_) (fun hc => ?_)
                · rw [if_pos hc] at h
                  exact J126 q80.1 H locs ls  hX hS (lv_sub hl [0, 1] rfl) h
                · rw [if_neg hc] at h
                  exact J121  H locs ls  hX hS (lv_sub hl [0, 1] rfl) h
            · rw [if_neg hc] at h
              obtain rfl := Option.some.inj h
              exact rt_v hQ hx hb hr hX hS hlk d_m_readClass_86
          refine lv_if_eq hx hb d_m_readClass_67 (tgt := 79) (by decide) (fun hc => ?_) (fun hc => ?_)
          · rw [if_pos hc] at h
            exact J79  H locs ls  hX hS (lv_sub hl [0, 1] rfl) h
          · rw [if_neg hc] at h
            refine lv_aload_n hx hb d_m_readClass_70 rfl (lv_at hl 0 rfl) ?_
            refine lv_bipush (v := 125) hx hb d_m_readClass_71 (by decide) ?_
            obtain ⟨q73, hc73, h⟩ := Option.bind_eq_some_iff.mp h
            refine ck_V (As := [.int 125]) (rest := []) (st1 := [.int (bI q73)]) (M_m_is  hc73) t_1192 t_1194 p_45 t_1195 t_13 hx hb hts hown hC hX hS (hrc_m0 hC hX (by rfl)) hml hl.1 ⟨by rw [hRf]; decide, by rw [hRl]; decide⟩ ⟨rfl, rfl⟩ (n := 1) (by decide +kernel) rfl rfl rfl (lv_room (Nat.le_of_ble_eq_true rfl)) d_m_readClass_73 (fun H locs hX hS => ?_)
            refine lz_ifne hx hb d_m_readClass_76 (tgt := 187) (by decide) (fun hc => ?_) (fun hc => ?_)
            · rw [if_pos hc] at h
              exact J187  H locs ls  hX hS (lv_sub hl [0] rfl) h
            · rw [if_neg hc] at h
              exact J79  H locs ls  hX hS (lv_sub hl [0, 1] rfl) h
    exact L54 600 S53 H locs ls  hX hS (lv_sub hl [2, 0] rfl) h
  · rw [if_neg hc] at h
    obtain rfl := Option.some.inj h
    exact rt_v hQ hx hb hr hX hS hlk d_m_readClass_46
abbrev y_m_readType : MethodName := ({ cls := "TypeGuardModel", name := "readType", desc := "()V" } : Jvm.MethodName)
theorem d_m_readType_0 : decode prog_14_method_19_code 0 = .ok (.aload_n 0, 1) := by decide +kernel
theorem d_m_readType_1 : decode prog_14_method_19_code 1 = .ok (.invokevirtual 189, 3) := by decide +kernel
theorem d_m_readType_4 : decode prog_14_method_19_code 4 = .ok (.istore_n 1, 1) := by decide +kernel
theorem d_m_readType_5 : decode prog_14_method_19_code 5 = .ok (.bipush 12, 2) := by decide +kernel
theorem d_m_readType_7 : decode prog_14_method_19_code 7 = .ok (.iload_n 1, 1) := by decide +kernel
theorem d_m_readType_8 : decode prog_14_method_19_code 8 = .ok (.imul, 1) := by decide +kernel
theorem d_m_readType_9 : decode prog_14_method_19_code 9 = .ok (.aload_n 0, 1) := by decide +kernel
theorem d_m_readType_10 : decode prog_14_method_19_code 10 = .ok (.getfield 17, 3) := by decide +kernel
theorem d_m_readType_13 : decode prog_14_method_19_code 13 = .ok (.iconst 5, 1) := by decide +kernel
theorem d_m_readType_14 : decode prog_14_method_19_code 14 = .ok (.iload_n 1, 1) := by decide +kernel
theorem d_m_readType_15 : decode prog_14_method_19_code 15 = .ok (.imul, 1) := by decide +kernel
theorem d_m_readType_16 : decode prog_14_method_19_code 16 = .ok (.iaload, 1) := by decide +kernel
theorem d_m_readType_17 : decode prog_14_method_19_code 17 = .ok (.iadd, 1) := by decide +kernel
theorem d_m_readType_18 : decode prog_14_method_19_code 18 = .ok (.istore_n 2, 1) := by decide +kernel
theorem d_m_readType_19 : decode prog_14_method_19_code 19 = .ok (.aload_n 0, 1) := by decide +kernel
theorem d_m_readType_20 : decode prog_14_method_19_code 20 = .ok (.iconst 0, 1) := by decide +kernel
theorem d_m_readType_21 : decode prog_14_method_19_code 21 = .ok (.aload_n 0, 1) := by decide +kernel
theorem d_m_readType_22 : decode prog_14_method_19_code 22 = .ok (.getfield 20, 3) := by decide +kernel
theorem d_m_readType_25 : decode prog_14_method_19_code 25 = .ok (.bipush 12, 2) := by decide +kernel
theorem d_m_readType_27 : decode prog_14_method_19_code 27 = .ok (.iload_n 1, 1) := by decide +kernel
theorem d_m_readType_28 : decode prog_14_method_19_code 28 = .ok (.imul, 1) := by decide +kernel
theorem d_m_readType_29 : decode prog_14_method_19_code 29 = .ok (.bipush 12, 2) := by decide +kernel
theorem d_m_readType_31 : decode prog_14_method_19_code 31 = .ok (.invokevirtual 208, 3) := by decide +kernel
theorem d_m_readType_34 : decode prog_14_method_19_code 34 = .ok (.aload_n 0, 1) := by decide +kernel
theorem d_m_readType_35 : decode prog_14_method_19_code 35 = .ok (.getfield 109, 3) := by decide +kernel
theorem d_m_readType_38 : decode prog_14_method_19_code 38 = .ok (.ifCond .ne 10, 3) := by decide +kernel
theorem d_m_readType_41 : decode prog_14_method_19_code 41 = .ok (.aload_n 0, 1) := by decide +kernel
theorem d_m_readType_42 : decode prog_14_method_19_code 42 = .ok (.getfield 36, 3) := by decide +kernel
theorem d_m_readType_45 : decode prog_14_method_19_code 45 = .ok (.iload_n 2, 1) := by decide +kernel
theorem d_m_readType_46 : decode prog_14_method_19_code 46 = .ok (.iconst 0, 1) := by decide +kernel
theorem d_m_readType_47 : decode prog_14_method_19_code 47 = .ok (.iastore, 1) := by decide +kernel
theorem d_m_readType_48 : decode prog_14_method_19_code 48 = .ok (.aload_n 0, 1) := by decide +kernel
theorem d_m_readType_49 : decode prog_14_method_19_code 49 = .ok (.bipush 44, 2) := by decide +kernel
theorem d_m_readType_51 : decode prog_14_method_19_code 51 = .ok (.invokevirtual 151, 3) := by decide +kernel
theorem d_m_readType_54 : decode prog_14_method_19_code 54 = .ok (.ifCond .eq 72, 3) := by decide +kernel
theorem d_m_readType_57 : decode prog_14_method_19_code 57 = .ok (.aload_n 0, 1) := by decide +kernel
theorem d_m_readType_58 : decode prog_14_method_19_code 58 = .ok (.invokevirtual 193, 3) := by decide +kernel
theorem d_m_readType_61 : decode prog_14_method_19_code 61 = .ok (.ifCond .ne 4, 3) := by decide +kernel
theorem d_m_readType_64 : decode prog_14_method_19_code 64 = .ok (.return_, 1) := by decide +kernel
theorem d_m_readType_65 : decode prog_14_method_19_code 65 = .ok (.aload_n 0, 1) := by decide +kernel
theorem d_m_readType_66 : decode prog_14_method_19_code 66 = .ok (.getfield 24, 3) := by decide +kernel
theorem d_m_readType_69 : decode prog_14_method_19_code 69 = .ok (.iconst 4, 1) := by decide +kernel
theorem d_m_readType_70 : decode prog_14_method_19_code 70 = .ok (.iload_n 1, 1) := by decide +kernel
theorem d_m_readType_71 : decode prog_14_method_19_code 71 = .ok (.imul, 1) := by decide +kernel
theorem d_m_readType_72 : decode prog_14_method_19_code 72 = .ok (.aload_n 0, 1) := by decide +kernel
theorem d_m_readType_73 : decode prog_14_method_19_code 73 = .ok (.getfield 17, 3) := by decide +kernel
theorem d_m_readType_76 : decode prog_14_method_19_code 76 = .ok (.iconst 5, 1) := by decide +kernel
theorem d_m_readType_77 : decode prog_14_method_19_code 77 = .ok (.iload_n 1, 1) := by decide +kernel
theorem d_m_readType_78 : decode prog_14_method_19_code 78 = .ok (.imul, 1) := by decide +kernel
theorem d_m_readType_79 : decode prog_14_method_19_code 79 = .ok (.iconst 1, 1) := by decide +kernel
theorem d_m_readType_80 : decode prog_14_method_19_code 80 = .ok (.iadd, 1) := by decide +kernel
theorem d_m_readType_81 : decode prog_14_method_19_code 81 = .ok (.iaload, 1) := by decide +kernel
theorem d_m_readType_82 : decode prog_14_method_19_code 82 = .ok (.aload_n 0, 1) := by decide +kernel
theorem d_m_readType_83 : decode prog_14_method_19_code 83 = .ok (.getfield 134, 3) := by decide +kernel
theorem d_m_readType_86 : decode prog_14_method_19_code 86 = .ok (.invokestatic 157, 3) := by decide +kernel
theorem d_m_readType_89 : decode prog_14_method_19_code 89 = .ok (.istore_n 3, 1) := by decide +kernel
theorem d_m_readType_90 : decode prog_14_method_19_code 90 = .ok (.iload_n 3, 1) := by decide +kernel
theorem d_m_readType_91 : decode prog_14_method_19_code 91 = .ok (.ifCond .ge 8, 3) := by decide +kernel
theorem d_m_readType_94 : decode prog_14_method_19_code 94 = .ok (.aload_n 0, 1) := by decide +kernel
theorem d_m_readType_95 : decode prog_14_method_19_code 95 = .ok (.iconst 2, 1) := by decide +kernel
theorem d_m_readType_96 : decode prog_14_method_19_code 96 = .ok (.invokevirtual 141, 3) := by decide +kernel
theorem d_m_readType_99 : decode prog_14_method_19_code 99 = .ok (.aload_n 0, 1) := by decide +kernel
theorem d_m_readType_100 : decode prog_14_method_19_code 100 = .ok (.getfield 109, 3) := by decide +kernel
theorem d_m_readType_103 : decode prog_14_method_19_code 103 = .ok (.ifCond .eq 4, 3) := by decide +kernel
theorem d_m_readType_106 : decode prog_14_method_19_code 106 = .ok (.return_, 1) := by decide +kernel
theorem d_m_readType_107 : decode prog_14_method_19_code 107 = .ok (.aload_n 0, 1) := by decide +kernel
theorem d_m_readType_108 : decode prog_14_method_19_code 108 = .ok (.getfield 36, 3) := by decide +kernel
theorem d_m_readType_111 : decode prog_14_method_19_code 111 = .ok (.iload_n 2, 1) := by decide +kernel
theorem d_m_readType_112 : decode prog_14_method_19_code 112 = .ok (.dup2, 1) := by decide +kernel
theorem d_m_readType_113 : decode prog_14_method_19_code 113 = .ok (.iaload, 1) := by decide +kernel
theorem d_m_readType_114 : decode prog_14_method_19_code 114 = .ok (.iconst 1, 1) := by decide +kernel
theorem d_m_readType_115 : decode prog_14_method_19_code 115 = .ok (.iload_n 3, 1) := by decide +kernel
theorem d_m_readType_116 : decode prog_14_method_19_code 116 = .ok (.ishl, 1) := by decide +kernel
theorem d_m_readType_117 : decode prog_14_method_19_code 117 = .ok (.ior, 1) := by decide +kernel
theorem d_m_readType_118 : decode prog_14_method_19_code 118 = .ok (.iastore, 1) := by decide +kernel
theorem d_m_readType_119 : decode prog_14_method_19_code 119 = .ok (.aload_n 0, 1) := by decide +kernel
theorem d_m_readType_120 : decode prog_14_method_19_code 120 = .ok (.invokevirtual 148, 3) := by decide +kernel
theorem d_m_readType_123 : decode prog_14_method_19_code 123 = .ok (.goto (-75), 3) := by decide +kernel
theorem d_m_readType_126 : decode prog_14_method_19_code 126 = .ok (.aload_n 0, 1) := by decide +kernel
theorem d_m_readType_127 : decode prog_14_method_19_code 127 = .ok (.bipush 59, 2) := by decide +kernel
theorem d_m_readType_129 : decode prog_14_method_19_code 129 = .ok (.invokevirtual 212, 3) := by decide +kernel
theorem d_m_readType_132 : decode prog_14_method_19_code 132 = .ok (.return_, 1) := by decide +kernel
def m_readType_J99 (kO48 : MS → Option MS) (v1_99 : Int32) (v2_99 : Int32) (v3_99 : Int32) (S_99 : MS) : Option MS := (if (gI S_99 0 7) = 0 then (if inbd v2_99 24 = true then (if inbd v2_99 24 = true then (bd (pI S_99 8 (txN v2_99) ((gI S_99 8 (txN v2_99)) ||| (1 <<< (v3_99 &&& 31)))) fun S118 => ((m_next S118).bind fun q120 => kO48 q120)) else none) else none) else some S_99)
def m_readType_L48 (v1_48 : Int32) (v2_48 : Int32) : Nat → MS → Option MS
  | 0, _ => none
  | n + 1, S_48 => ((m_passes 44 S_48).bind fun q51 => (if q51.2 = true then ((m_isName q51.1).bind fun q58 => (if q58.2 = true then (if inbd ((5 * v1_48) + 1) 10 = true then ((m_find 4 (4 * v1_48) (gI q58.1 2 (txN ((5 * v1_48) + 1))) (gL q58.1 0 11) q58.1).bind fun q86 => (if 0 ≤ q86 then m_readType_J99 (m_readType_L48 v1_48 v2_48 n) v1_48 v2_48 q86 q58.1 else ((m_fail 2 q58.1).bind fun q96 => m_readType_J99 (m_readType_L48 v1_48 v2_48 n) v1_48 v2_48 q86 q96))) else none) else some q58.1)) else ((m_must 59 q51.1).bind fun q129 => some q129)))
def m_readType (S : MS) : Option MS := ((m_own S).bind fun q1 => (if inbd (5 * q1) 10 = true then (bd (((12 * q1) + (gI S 2 (txN (5 * q1))))) fun a18 => ((m_declare 0 3 (12 * q1) 12 S).bind fun q31 => (if (gI q31 0 7) = 0 then (if inbd a18 24 = true then (bd (pI q31 8 (txN a18) 0) fun S47 => m_readType_L48 q1 a18 600 S47) else none) else m_readType_L48 q1 a18 600 q31))) else none))
set_option maxHeartbeats 4000000 in
set_option maxRecDepth 100000 in
theorem M_m_readType {l : Launch} {D : va_G} {cA : Nat → ClassId} {b : Nat} {ad : Nat → Nat}  {S : MS} {T : CS} {o : Nat → Int64} {rr : MS}  (h : m_readType  S = some rr) : Met l y_m_readType (Cond.code y_m_readType prog_14_method_19_code 4 (Option.none : Option Jvm.ClassFile.FieldType) :: TW) { frames := 5, cells := 0, slots := 0, locals := 105 } (va_Pc [.ref (b + 262)] (Rp D cA b ad (T, S, o))) (Qr D cA b ad (T, rr, o) none) 0 0 (Ab b) := by
  refine Ct_of (by decide) (Nat.le_of_ble_eq_true rfl) ?_
  intro p e R s m args below meth c ls Q H locs hR hQ hx hb hts hown hml hr hlk hC hX hS hl
  have hRf : R.frames = 5 := by rw [hR]
  have hRl : R.locals = 105 := by rw [hR]
  have hown : s.vm.findClass "TypeGuardModel" = some m.cls := hown
  have hl : lv_has ls 4 [(0, .ref (b + 262))] := hl
  rw [m_readType] at h
  refine lv_aload_n hx hb d_m_readType_0 rfl (lv_at hl 0 rfl) ?_
  obtain ⟨q1, hc1, h⟩ := Option.bind_eq_some_iff.mp h
  refine ck_V (As := []) (rest := []) (st1 := [.int q1]) (M_m_own  hc1) t_1145 t_1147 p_38 t_1148 t_13 hx hb hts hown hC hX hS (hrc_m0 hC hX (by rfl)) hml hl.1 ⟨by rw [hRf]; decide, by rw [hRl]; decide⟩ ⟨rfl, rfl⟩ (n := 0) (by decide +kernel) rfl rfl rfl (lv_room (Nat.le_of_ble_eq_true rfl)) d_m_readType_1 (fun H locs hX hS => ?_)
  refine lv_istore_n (lv' := [(1, .int q1), (0, .ref (b + 262))]) hx hb d_m_readType_4 rfl hl (by decide) rfl (fun ls hl => ?_)
  refine lv_bipush (v := 12) hx hb d_m_readType_5 (by decide) ?_
  refine lv_iload_n hx hb d_m_readType_7 rfl (lv_at hl 0 rfl) ?_
  refine lv_imul hx hb d_m_readType_8 ?_
  refine lv_aload_n hx hb d_m_readType_9 rfl (lv_at hl 1 rfl) ?_
  refine m_get_0_13 hx hb hts hown hC hX (by rfl) (hts _ t_1000) d_m_readType_10 ?_
  refine lv_iconst (v := 5) hx hb d_m_readType_13 (by decide) ?_
  refine lv_iload_n hx hb d_m_readType_14 rfl (lv_at hl 0 rfl) ?_
  refine lv_imul hx hb d_m_readType_15 ?_
  by_cases hg16 : inbd (5 * q1) 10 = true
  rotate_left; · rw [if_neg hg16] at h; cases h
  rw [if_pos hg16] at h
  refine m_ald_1 (k := 2) hx hb hC hX (by rfl) hg16 d_m_readType_16 ?_
  refine lv_iadd hx hb d_m_readType_17 ?_
  obtain ⟨a18, e18, h⟩ := bd_some h
  refine lt_I e18 ?_
  refine lv_istore_n (lv' := [(2, .int a18), (1, .int q1), (0, .ref (b + 262))]) hx hb d_m_readType_18 rfl hl (by decide) rfl (fun ls hl => ?_)
  refine lv_aload_n hx hb d_m_readType_19 rfl (lv_at hl 2 rfl) ?_
  refine lv_iconst (v := 0) hx hb d_m_readType_20 (by decide) ?_
  refine lv_aload_n hx hb d_m_readType_21 rfl (lv_at hl 2 rfl) ?_
  refine m_get_0_14 hx hb hts hown hC hX (by rfl) (hts _ t_1001) d_m_readType_22 ?_
  refine lv_bipush (v := 12) hx hb d_m_readType_25 (by decide) ?_
  refine lv_iload_n hx hb d_m_readType_27 rfl (lv_at hl 1 rfl) ?_
  refine lv_imul hx hb d_m_readType_28 ?_
  refine lv_bipush (v := 12) hx hb d_m_readType_29 (by decide) ?_
  obtain ⟨q31, hc31, h⟩ := Option.bind_eq_some_iff.mp h
  refine ck_V (As := [.int 0, .ref (b + 265), .int (12 * q1), .int 12]) (rest := []) (st1 := []) (M_m_declare (by rfl) hc31) t_1238 t_1240 p_55 t_1241 t_13 hx hb hts hown hC hX hS (hrc_m0 hC hX (by rfl)) hml hl.1 ⟨by rw [hRf]; decide, by rw [hRl]; decide⟩ ⟨rfl, rfl⟩ (n := 4) (by decide +kernel) rfl rfl rfl (lv_room (Nat.le_of_ble_eq_true rfl)) d_m_readType_31 (fun H locs hX hS => ?_)
  refine lv_aload_n hx hb d_m_readType_34 rfl (lv_at hl 2 rfl) ?_
  refine m_get_0_7 hx hb hts hown hC hX (by rfl) (hts _ t_994) d_m_readType_35 ?_
  refine lv_if_ne hx hb d_m_readType_38 (tgt := 48) (by decide) (fun hc => ?_) (fun hc => ?_)
  · rw [if_neg hc] at h
    have L48 : ∀ (n48 : Nat) (S_48 : MS) (H : Heap) (locs : List Loc) (ls : Array Slot), hp D cA b ad (T, S_48, o) H → va_S (Ab b) s.heap H locs → lv_has ls 4 [(0, .ref (b + 262)), (1, .int q1), (2, .int a18)] → m_readType_L48 q1 a18 n48 S_48 = some rr → W p l e R s m args below meth c H locs 0 0 Q (F0 m 48 ls []) := by
      intro n48; induction n48 with
      | zero => intro S_48 H locs ls  hX hS hl h; rw [m_readType_L48] at h; cases h
      | succ n48 ih48 =>
        intro S_48 H locs ls  hX hS hl h
        rw [m_readType_L48] at h
        refine lv_aload_n hx hb d_m_readType_48 rfl (lv_at hl 0 rfl) ?_
        refine lv_bipush (v := 44) hx hb d_m_readType_49 (by decide) ?_
        obtain ⟨q51, hc51, h⟩ := Option.bind_eq_some_iff.mp h
        refine ck_V (As := [.int 44]) (rest := []) (st1 := [.int (bI q51.2)]) (M_m_passes  hc51) t_1188 t_1190 p_44 t_1191 t_13 hx hb hts hown hC hX hS (hrc_m0 hC hX (by rfl)) hml hl.1 ⟨by rw [hRf]; decide, by rw [hRl]; decide⟩ ⟨rfl, rfl⟩ (n := 1) (by decide +kernel) rfl rfl rfl (lv_room (Nat.le_of_ble_eq_true rfl)) d_m_readType_51 (fun H locs hX hS => ?_)
        refine lz_ifeq hx hb d_m_readType_54 (tgt := 126) (by decide) (fun hc => ?_) (fun hc => ?_)
        · rw [if_neg hc] at h
          refine lv_aload_n hx hb d_m_readType_126 rfl (lv_at hl 0 rfl) ?_
          refine lv_bipush (v := 59) hx hb d_m_readType_127 (by decide) ?_
          obtain ⟨q129, hc129, h⟩ := Option.bind_eq_some_iff.mp h
          refine ck_V (As := [.int 59]) (rest := []) (st1 := []) (M_m_must  hc129) t_1213 t_1215 p_49 t_1216 t_13 hx hb hts hown hC hX hS (hrc_m0 hC hX (by rfl)) hml hl.1 ⟨by rw [hRf]; decide, by rw [hRl]; decide⟩ ⟨rfl, rfl⟩ (n := 1) (by decide +kernel) rfl rfl rfl (lv_room (Nat.le_of_ble_eq_true rfl)) d_m_readType_129 (fun H locs hX hS => ?_)
          obtain rfl := Option.some.inj h
          exact rt_v hQ hx hb hr hX hS hlk d_m_readType_132
        · rw [if_pos hc] at h
          refine lv_aload_n hx hb d_m_readType_57 rfl (lv_at hl 0 rfl) ?_
          obtain ⟨q58, hc58, h⟩ := Option.bind_eq_some_iff.mp h
          refine ck_V (As := []) (rest := []) (st1 := [.int (bI q58.2)]) (M_m_isName  hc58) t_1202 t_1204 p_47 t_1205 t_13 hx hb hts hown hC hX hS (hrc_m0 hC hX (by rfl)) hml hl.1 ⟨by rw [hRf]; decide, by rw [hRl]; decide⟩ ⟨rfl, rfl⟩ (n := 0) (by decide +kernel) rfl rfl rfl (lv_room (Nat.le_of_ble_eq_true rfl)) d_m_readType_58 (fun H locs hX hS => ?_)
          refine lz_ifne hx hb d_m_readType_61 (tgt := 65) (by decide) (fun hc => ?_) (fun hc => ?_)
          · rw [if_pos hc] at h
            refine lv_aload_n hx hb d_m_readType_65 rfl (lv_at hl 0 rfl) ?_
            refine m_get_0_15 hx hb hts hown hC hX (by rfl) (hts _ t_1002) d_m_readType_66 ?_
            refine lv_iconst (v := 4) hx hb d_m_readType_69 (by decide) ?_
            refine lv_iload_n hx hb d_m_readType_70 rfl (lv_at hl 1 rfl) ?_
            refine lv_imul hx hb d_m_readType_71 ?_
            refine lv_aload_n hx hb d_m_readType_72 rfl (lv_at hl 0 rfl) ?_
            refine m_get_0_13 hx hb hts hown hC hX (by rfl) (hts _ t_1000) d_m_readType_73 ?_
            refine lv_iconst (v := 5) hx hb d_m_readType_76 (by decide) ?_
            refine lv_iload_n hx hb d_m_readType_77 rfl (lv_at hl 1 rfl) ?_
            refine lv_imul hx hb d_m_readType_78 ?_
            refine lv_iconst (v := 1) hx hb d_m_readType_79 (by decide) ?_
            refine lv_iadd hx hb d_m_readType_80 ?_
            by_cases hg81 : inbd ((5 * q1) + 1) 10 = true
            rotate_left; · rw [if_neg hg81] at h; cases h
            rw [if_pos hg81] at h
            refine m_ald_1 (k := 2) hx hb hC hX (by rfl) hg81 d_m_readType_81 ?_
            refine lv_aload_n hx hb d_m_readType_82 rfl (lv_at hl 0 rfl) ?_
            refine m_get_0_11 hx hb hts hown hC hX (by rfl) (hts _ t_998) d_m_readType_83 ?_
            obtain ⟨q86, hc86, h⟩ := Option.bind_eq_some_iff.mp h
            refine ck_S (As := [.ref (b + 266), .int (4 * q1), .int (gI q58.1 2 (txN ((5 * q1) + 1))), .long (gL q58.1 0 11)]) (rest := []) (st1 := [.int q86]) (M_m_find (by rfl) hc86) t_1210 t_1211 t_1212 t_13 hx hb hts hown hC hX hS  hml hl.1 ⟨by rw [hRf]; decide, by rw [hRl]; decide⟩ ⟨rfl, rfl⟩ (n := 4) (by decide +kernel) rfl rfl rfl (lv_room (Nat.le_of_ble_eq_true rfl)) d_m_readType_86 (fun H locs hX hS => ?_)
            refine lv_istore_n (lv' := [(3, .int q86), (0, .ref (b + 262)), (1, .int q1), (2, .int a18)]) hx hb d_m_readType_89 rfl hl (by decide) rfl (fun ls hl => ?_)
            refine lv_iload_n hx hb d_m_readType_90 rfl (lv_at hl 0 rfl) ?_
            have J99 : ∀ (S_99 : MS) (H : Heap) (locs : List Loc) (ls : Array Slot), hp D cA b ad (T, S_99, o) H → va_S (Ab b) s.heap H locs → lv_has ls 4 [(0, .ref (b + 262)), (1, .int q1), (2, .int a18), (3, .int q86)] → m_readType_J99 (m_readType_L48 q1 a18 n48) q1 a18 q86 S_99 = some rr → W p l e R s m args below meth c H locs 0 0 Q (F0 m 99 ls []) := by
              intro S_99 H locs ls  hX hS hl h
              rw [m_readType_J99] at h
              refine lv_aload_n hx hb d_m_readType_99 rfl (lv_at hl 0 rfl) ?_
              refine m_get_0_7 hx hb hts hown hC hX (by rfl) (hts _ t_994) d_m_readType_100 ?_
              refine lv_if_eq hx hb d_m_readType_103 (tgt := 107) (by decide) (fun hc => ?_) (fun hc => ?_)
              · rw [if_pos hc] at h
                refine lv_aload_n hx hb d_m_readType_107 rfl (lv_at hl 0 rfl) ?_
                refine m_get_0_19 hx hb hts hown hC hX (by rfl) (hts _ t_1006) d_m_readType_108 ?_
                refine lv_iload_n hx hb d_m_readType_111 rfl (lv_at hl 2 rfl) ?_
                refine lv_dup2_11 hx hb d_m_readType_112 rfl rfl ?_
                by_cases hg113 : inbd a18 24 = true
                rotate_left; · rw [if_neg hg113] at h; cases h
                rw [if_pos hg113] at h
                refine m_ald_1 (k := 8) hx hb hC hX (by rfl) hg113 d_m_readType_113 ?_
                refine lv_iconst (v := 1) hx hb d_m_readType_114 (by decide) ?_
                refine lv_iload_n hx hb d_m_readType_115 rfl (lv_at hl 3 rfl) ?_
                refine lv_ishl hx hb d_m_readType_116 ?_
                refine lv_ior hx hb d_m_readType_117 ?_
                by_cases hg118 : inbd a18 24 = true
                rotate_left; · rw [if_neg hg118] at h; cases h
                rw [if_pos hg118] at h
                refine m_ast_1 (k := 8) (v := ((gI S_99 8 (txN a18)) ||| (1 <<< (q86 &&& 31)))) hx hb hC hX hS (by rfl) hg118 d_m_readType_118 (fun H locs hX hS => ?_)
                obtain ⟨S118, e118, h⟩ := bd_some h
                rw [← e118] at hX
                refine lv_aload_n hx hb d_m_readType_119 rfl (lv_at hl 0 rfl) ?_
                obtain ⟨q120, hc120, h⟩ := Option.bind_eq_some_iff.mp h
                refine ck_V (As := []) (rest := []) (st1 := []) (M_m_next  hc120) t_1149 t_1151 p_39 t_1152 t_13 hx hb hts hown hC hX hS (hrc_m0 hC hX (by rfl)) hml hl.1 ⟨by rw [hRf]; decide, by rw [hRl]; decide⟩ ⟨rfl, rfl⟩ (n := 0) (by decide +kernel) rfl rfl rfl (lv_room (Nat.le_of_ble_eq_true rfl)) d_m_readType_120 (fun H locs hX hS => ?_)
                refine lv_goto hx hb d_m_readType_123 (tgt := 48) (by decide) ?_
                exact ih48 q120 H locs ls  hX hS (lv_sub hl [0, 1, 2] rfl) h
              · rw [if_neg hc] at h
                obtain rfl := Option.some.inj h
                exact rt_v hQ hx hb hr hX hS hlk d_m_readType_106
            refine lv_if_ge hx hb d_m_readType_91 (tgt := 99) (by decide) (fun hc => ?_) (fun hc => ?_)
            · rw [if_pos hc] at h
              exact J99 q58.1 H locs ls  hX hS (lv_sub hl [1, 2, 3, 0] rfl) h
            · rw [if_neg hc] at h
              refine lv_aload_n hx hb d_m_readType_94 rfl (lv_at hl 1 rfl) ?_
              refine lv_iconst (v := 2) hx hb d_m_readType_95 (by decide) ?_
              obtain ⟨q96, hc96, h⟩ := Option.bind_eq_some_iff.mp h
              refine ck_V (As := [.int 2]) (rest := []) (st1 := []) (M_m_fail  hc96) t_1159 t_1161 p_40 t_1162 t_13 hx hb hts hown hC hX hS (hrc_m0 hC hX (by rfl)) hml hl.1 ⟨by rw [hRf]; decide, by rw [hRl]; decide⟩ ⟨rfl, rfl⟩ (n := 1) (by decide +kernel) rfl rfl rfl (lv_room (Nat.le_of_ble_eq_true rfl)) d_m_readType_96 (fun H locs hX hS => ?_)
              exact J99 q96 H locs ls  hX hS (lv_sub hl [1, 2, 3, 0] rfl) h
          · rw [if_neg hc] at h
            obtain rfl := Option.some.inj h
            exact rt_v hQ hx hb hr hX hS hlk d_m_readType_64
    exact L48 600 q31 H locs ls  hX hS (lv_sub hl [2, 1, 0] rfl) h
  · rw [if_pos hc] at h
    refine lv_aload_n hx hb d_m_readType_41 rfl (lv_at hl 2 rfl) ?_
    refine m_get_0_19 hx hb hts hown hC hX (by rfl) (hts _ t_1006) d_m_readType_42 ?_
    refine lv_iload_n hx hb d_m_readType_45 rfl (lv_at hl 0 rfl) ?_
    refine lv_iconst (v := 0) hx hb d_m_readType_46 (by decide) ?_
    by_cases hg47 : inbd a18 24 = true
    rotate_left; · rw [if_neg hg47] at h; cases h
    rw [if_pos hg47] at h
    refine m_ast_1 (k := 8) (v := 0) hx hb hC hX hS (by rfl) hg47 d_m_readType_47 (fun H locs hX hS => ?_)
    obtain ⟨S47, e47, h⟩ := bd_some h
    rw [← e47] at hX
    have L48 : ∀ (n48 : Nat) (S_48 : MS) (H : Heap) (locs : List Loc) (ls : Array Slot), hp D cA b ad (T, S_48, o) H → va_S (Ab b) s.heap H locs → lv_has ls 4 [(0, .ref (b + 262)), (1, .int q1), (2, .int a18)] → m_readType_L48 q1 a18 n48 S_48 = some rr → W p l e R s m args below meth c H locs 0 0 Q (F0 m 48 ls []) := by
      intro n48; induction n48 with
      | zero => intro S_48 H locs ls  hX hS hl h; rw [m_readType_L48] at h; cases h
      | succ n48 ih48 =>
        intro S_48 H locs ls  hX hS hl h
        rw [m_readType_L48] at h
        refine lv_aload_n hx hb d_m_readType_48 rfl (lv_at hl 0 rfl) ?_
        refine lv_bipush (v := 44) hx hb d_m_readType_49 (by decide) ?_
        obtain ⟨q51, hc51, h⟩ := Option.bind_eq_some_iff.mp h
        refine ck_V (As := [.int 44]) (rest := []) (st1 := [.int (bI q51.2)]) (M_m_passes  hc51) t_1188 t_1190 p_44 t_1191 t_13 hx hb hts hown hC hX hS (hrc_m0 hC hX (by rfl)) hml hl.1 ⟨by rw [hRf]; decide, by rw [hRl]; decide⟩ ⟨rfl, rfl⟩ (n := 1) (by decide +kernel) rfl rfl rfl (lv_room (Nat.le_of_ble_eq_true rfl)) d_m_readType_51 (fun H locs hX hS => ?_)
        refine lz_ifeq hx hb d_m_readType_54 (tgt := 126) (by decide) (fun hc => ?_) (fun hc => ?_)
        · rw [if_neg hc] at h
          refine lv_aload_n hx hb d_m_readType_126 rfl (lv_at hl 0 rfl) ?_
          refine lv_bipush (v := 59) hx hb d_m_readType_127 (by decide) ?_
          obtain ⟨q129, hc129, h⟩ := Option.bind_eq_some_iff.mp h
          refine ck_V (As := [.int 59]) (rest := []) (st1 := []) (M_m_must  hc129) t_1213 t_1215 p_49 t_1216 t_13 hx hb hts hown hC hX hS (hrc_m0 hC hX (by rfl)) hml hl.1 ⟨by rw [hRf]; decide, by rw [hRl]; decide⟩ ⟨rfl, rfl⟩ (n := 1) (by decide +kernel) rfl rfl rfl (lv_room (Nat.le_of_ble_eq_true rfl)) d_m_readType_129 (fun H locs hX hS => ?_)
          obtain rfl := Option.some.inj h
          exact rt_v hQ hx hb hr hX hS hlk d_m_readType_132
        · rw [if_pos hc] at h
          refine lv_aload_n hx hb d_m_readType_57 rfl (lv_at hl 0 rfl) ?_
          obtain ⟨q58, hc58, h⟩ := Option.bind_eq_some_iff.mp h
          refine ck_V (As := []) (rest := []) (st1 := [.int (bI q58.2)]) (M_m_isName  hc58) t_1202 t_1204 p_47 t_1205 t_13 hx hb hts hown hC hX hS (hrc_m0 hC hX (by rfl)) hml hl.1 ⟨by rw [hRf]; decide, by rw [hRl]; decide⟩ ⟨rfl, rfl⟩ (n := 0) (by decide +kernel) rfl rfl rfl (lv_room (Nat.le_of_ble_eq_true rfl)) d_m_readType_58 (fun H locs hX hS => ?_)
          refine lz_ifne hx hb d_m_readType_61 (tgt := 65) (by decide) (fun hc => ?_) (fun hc => ?_)
          · rw [if_pos hc] at h
            refine lv_aload_n hx hb d_m_readType_65 rfl (lv_at hl 0 rfl) ?_
            refine m_get_0_15 hx hb hts hown hC hX (by rfl) (hts _ t_1002) d_m_readType_66 ?_
            refine lv_iconst (v := 4) hx hb d_m_readType_69 (by decide) ?_
            refine lv_iload_n hx hb d_m_readType_70 rfl (lv_at hl 1 rfl) ?_
            refine lv_imul hx hb d_m_readType_71 ?_
            refine lv_aload_n hx hb d_m_readType_72 rfl (lv_at hl 0 rfl) ?_
            refine m_get_0_13 hx hb hts hown hC hX (by rfl) (hts _ t_1000) d_m_readType_73 ?_
            refine lv_iconst (v := 5) hx hb d_m_readType_76 (by decide) ?_
            refine lv_iload_n hx hb d_m_readType_77 rfl (lv_at hl 1 rfl) ?_
            refine lv_imul hx hb d_m_readType_78 ?_
            refine lv_iconst (v := 1) hx hb d_m_readType_79 (by decide) ?_
            refine lv_iadd hx hb d_m_readType_80 ?_
            by_cases hg81 : inbd ((5 * q1) + 1) 10 = true
            rotate_left; · rw [if_neg hg81] at h; cases h
            rw [if_pos hg81] at h
            refine m_ald_1 (k := 2) hx hb hC hX (by rfl) hg81 d_m_readType_81 ?_
            refine lv_aload_n hx hb d_m_readType_82 rfl (lv_at hl 0 rfl) ?_
            refine m_get_0_11 hx hb hts hown hC hX (by rfl) (hts _ t_998) d_m_readType_83 ?_
            obtain ⟨q86, hc86, h⟩ := Option.bind_eq_some_iff.mp h
            refine ck_S (As := [.ref (b + 266), .int (4 * q1), .int (gI q58.1 2 (txN ((5 * q1) + 1))), .long (gL q58.1 0 11)]) (rest := []) (st1 := [.int q86]) (M_m_find (by rfl) hc86) t_1210 t_1211 t_1212 t_13 hx hb hts hown hC hX hS  hml hl.1 ⟨by rw [hRf]; decide, by rw [hRl]; decide⟩ ⟨rfl, rfl⟩ (n := 4) (by decide +kernel) rfl rfl rfl (lv_room (Nat.le_of_ble_eq_true rfl)) d_m_readType_86 (fun H locs hX hS => ?_)
            refine lv_istore_n (lv' := [(3, .int q86), (0, .ref (b + 262)), (1, .int q1), (2, .int a18)]) hx hb d_m_readType_89 rfl hl (by decide) rfl (fun ls hl => ?_)
            refine lv_iload_n hx hb d_m_readType_90 rfl (lv_at hl 0 rfl) ?_
            have J99 : ∀ (S_99 : MS) (H : Heap) (locs : List Loc) (ls : Array Slot), hp D cA b ad (T, S_99, o) H → va_S (Ab b) s.heap H locs → lv_has ls 4 [(0, .ref (b + 262)), (1, .int q1), (2, .int a18), (3, .int q86)] → m_readType_J99 (m_readType_L48 q1 a18 n48) q1 a18 q86 S_99 = some rr → W p l e R s m args below meth c H locs 0 0 Q (F0 m 99 ls []) := by
              intro S_99 H locs ls  hX hS hl h
              rw [m_readType_J99] at h
              refine lv_aload_n hx hb d_m_readType_99 rfl (lv_at hl 0 rfl) ?_
              refine m_get_0_7 hx hb hts hown hC hX (by rfl) (hts _ t_994) d_m_readType_100 ?_
              refine lv_if_eq hx hb d_m_readType_103 (tgt := 107) (by decide) (fun hc => ?_) (fun hc => ?_)
              · rw [if_pos hc] at h
                refine lv_aload_n hx hb d_m_readType_107 rfl (lv_at hl 0 rfl) ?_
                refine m_get_0_19 hx hb hts hown hC hX (by rfl) (hts _ t_1006) d_m_readType_108 ?_
                refine lv_iload_n hx hb d_m_readType_111 rfl (lv_at hl 2 rfl) ?_
                refine lv_dup2_11 hx hb d_m_readType_112 rfl rfl ?_
                by_cases hg113 : inbd a18 24 = true
                rotate_left; · rw [if_neg hg113] at h; cases h
                rw [if_pos hg113] at h
                refine m_ald_1 (k := 8) hx hb hC hX (by rfl) hg113 d_m_readType_113 ?_
                refine lv_iconst (v := 1) hx hb d_m_readType_114 (by decide) ?_
                refine lv_iload_n hx hb d_m_readType_115 rfl (lv_at hl 3 rfl) ?_
                refine lv_ishl hx hb d_m_readType_116 ?_
                refine lv_ior hx hb d_m_readType_117 ?_
                by_cases hg118 : inbd a18 24 = true
                rotate_left; · rw [if_neg hg118] at h; cases h
                rw [if_pos hg118] at h
                refine m_ast_1 (k := 8) (v := ((gI S_99 8 (txN a18)) ||| (1 <<< (q86 &&& 31)))) hx hb hC hX hS (by rfl) hg118 d_m_readType_118 (fun H locs hX hS => ?_)
                obtain ⟨S118, e118, h⟩ := bd_some h
                rw [← e118] at hX
                refine lv_aload_n hx hb d_m_readType_119 rfl (lv_at hl 0 rfl) ?_
                obtain ⟨q120, hc120, h⟩ := Option.bind_eq_some_iff.mp h
                refine ck_V (As := []) (rest := []) (st1 := []) (M_m_next  hc120) t_1149 t_1151 p_39 t_1152 t_13 hx hb hts hown hC hX hS (hrc_m0 hC hX (by rfl)) hml hl.1 ⟨by rw [hRf]; decide, by rw [hRl]; decide⟩ ⟨rfl, rfl⟩ (n := 0) (by decide +kernel) rfl rfl rfl (lv_room (Nat.le_of_ble_eq_true rfl)) d_m_readType_120 (fun H locs hX hS => ?_)
                refine lv_goto hx hb d_m_readType_123 (tgt := 48) (by decide) ?_
                exact ih48 q120 H locs ls  hX hS (lv_sub hl [0, 1, 2] rfl) h
              · rw [if_neg hc] at h
                obtain rfl := Option.some.inj h
                exact rt_v hQ hx hb hr hX hS hlk d_m_readType_106
            refine lv_if_ge hx hb d_m_readType_91 (tgt := 99) (by decide) (fun hc => ?_) (fun hc => ?_)
            · rw [if_pos hc] at h
              exact J99 q58.1 H locs ls  hX hS (lv_sub hl [1, 2, 3, 0] rfl) h
            · rw [if_neg hc] at h
              refine lv_aload_n hx hb d_m_readType_94 rfl (lv_at hl 1 rfl) ?_
              refine lv_iconst (v := 2) hx hb d_m_readType_95 (by decide) ?_
              obtain ⟨q96, hc96, h⟩ := Option.bind_eq_some_iff.mp h
              refine ck_V (As := [.int 2]) (rest := []) (st1 := []) (M_m_fail  hc96) t_1159 t_1161 p_40 t_1162 t_13 hx hb hts hown hC hX hS (hrc_m0 hC hX (by rfl)) hml hl.1 ⟨by rw [hRf]; decide, by rw [hRl]; decide⟩ ⟨rfl, rfl⟩ (n := 1) (by decide +kernel) rfl rfl rfl (lv_room (Nat.le_of_ble_eq_true rfl)) d_m_readType_96 (fun H locs hX hS => ?_)
              exact J99 q96 H locs ls  hX hS (lv_sub hl [1, 2, 3, 0] rfl) h
          · rw [if_neg hc] at h
            obtain rfl := Option.some.inj h
            exact rt_v hQ hx hb hr hX hS hlk d_m_readType_64
    exact L48 600 S47 H locs ls  hX hS (lv_sub hl [2, 1, 0] rfl) h
abbrev y_m_readAttribute : MethodName := ({ cls := "TypeGuardModel", name := "readAttribute", desc := "()V" } : Jvm.MethodName)
theorem d_m_readAttribute_0 : decode prog_14_method_20_code 0 = .ok (.aload_n 0, 1) := by decide +kernel
theorem d_m_readAttribute_1 : decode prog_14_method_20_code 1 = .ok (.iconst 1, 1) := by decide +kernel
theorem d_m_readAttribute_2 : decode prog_14_method_20_code 2 = .ok (.aload_n 0, 1) := by decide +kernel
theorem d_m_readAttribute_3 : decode prog_14_method_20_code 3 = .ok (.getfield 24, 3) := by decide +kernel
theorem d_m_readAttribute_6 : decode prog_14_method_20_code 6 = .ok (.iconst 4, 1) := by decide +kernel
theorem d_m_readAttribute_7 : decode prog_14_method_20_code 7 = .ok (.aload_n 0, 1) := by decide +kernel
theorem d_m_readAttribute_8 : decode prog_14_method_20_code 8 = .ok (.invokevirtual 189, 3) := by decide +kernel
theorem d_m_readAttribute_11 : decode prog_14_method_20_code 11 = .ok (.imul, 1) := by decide +kernel
theorem d_m_readAttribute_12 : decode prog_14_method_20_code 12 = .ok (.iconst 4, 1) := by decide +kernel
theorem d_m_readAttribute_13 : decode prog_14_method_20_code 13 = .ok (.invokevirtual 208, 3) := by decide +kernel
theorem d_m_readAttribute_16 : decode prog_14_method_20_code 16 = .ok (.aload_n 0, 1) := by decide +kernel
theorem d_m_readAttribute_17 : decode prog_14_method_20_code 17 = .ok (.bipush 59, 2) := by decide +kernel
theorem d_m_readAttribute_19 : decode prog_14_method_20_code 19 = .ok (.invokevirtual 212, 3) := by decide +kernel
theorem d_m_readAttribute_22 : decode prog_14_method_20_code 22 = .ok (.return_, 1) := by decide +kernel
def m_readAttribute (S : MS) : Option MS := ((m_own S).bind fun q8 => ((m_declare 1 4 (4 * q8) 4 S).bind fun q13 => ((m_must 59 q13).bind fun q19 => some q19)))
set_option maxHeartbeats 4000000 in
set_option maxRecDepth 100000 in
theorem M_m_readAttribute {l : Launch} {D : va_G} {cA : Nat → ClassId} {b : Nat} {ad : Nat → Nat}  {S : MS} {T : CS} {o : Nat → Int64} {rr : MS}  (h : m_readAttribute  S = some rr) : Met l y_m_readAttribute (Cond.code y_m_readAttribute prog_14_method_20_code 1 (Option.none : Option Jvm.ClassFile.FieldType) :: TW) { frames := 5, cells := 0, slots := 0, locals := 105 } (va_Pc [.ref (b + 262)] (Rp D cA b ad (T, S, o))) (Qr D cA b ad (T, rr, o) none) 0 0 (Ab b) := by
  refine Ct_of (by decide) (Nat.le_of_ble_eq_true rfl) ?_
  intro p e R s m args below meth c ls Q H locs hR hQ hx hb hts hown hml hr hlk hC hX hS hl
  have hRf : R.frames = 5 := by rw [hR]
  have hRl : R.locals = 105 := by rw [hR]
  have hown : s.vm.findClass "TypeGuardModel" = some m.cls := hown
  have hl : lv_has ls 1 [(0, .ref (b + 262))] := hl
  rw [m_readAttribute] at h
  refine lv_aload_n hx hb d_m_readAttribute_0 rfl (lv_at hl 0 rfl) ?_
  refine lv_iconst (v := 1) hx hb d_m_readAttribute_1 (by decide) ?_
  refine lv_aload_n hx hb d_m_readAttribute_2 rfl (lv_at hl 0 rfl) ?_
  refine m_get_0_15 hx hb hts hown hC hX (by rfl) (hts _ t_1002) d_m_readAttribute_3 ?_
  refine lv_iconst (v := 4) hx hb d_m_readAttribute_6 (by decide) ?_
  refine lv_aload_n hx hb d_m_readAttribute_7 rfl (lv_at hl 0 rfl) ?_
  obtain ⟨q8, hc8, h⟩ := Option.bind_eq_some_iff.mp h
  refine ck_V (As := []) (rest := [.int 4, .ref (b + 266), .int 1, .ref (b + 262)]) (st1 := [.int q8, .int 4, .ref (b + 266), .int 1, .ref (b + 262)]) (M_m_own  hc8) t_1145 t_1147 p_38 t_1148 t_13 hx hb hts hown hC hX hS (hrc_m0 hC hX (by rfl)) hml hl.1 ⟨by rw [hRf]; decide, by rw [hRl]; decide⟩ ⟨rfl, rfl⟩ (n := 0) (by decide +kernel) rfl rfl rfl (lv_room (Nat.le_of_ble_eq_true rfl)) d_m_readAttribute_8 (fun H locs hX hS => ?_)
  refine lv_imul hx hb d_m_readAttribute_11 ?_
  refine lv_iconst (v := 4) hx hb d_m_readAttribute_12 (by decide) ?_
  obtain ⟨q13, hc13, h⟩ := Option.bind_eq_some_iff.mp h
  refine ck_V (As := [.int 1, .ref (b + 266), .int (4 * q8), .int 4]) (rest := []) (st1 := []) (M_m_declare (by rfl) hc13) t_1238 t_1240 p_55 t_1241 t_13 hx hb hts hown hC hX hS (hrc_m0 hC hX (by rfl)) hml hl.1 ⟨by rw [hRf]; decide, by rw [hRl]; decide⟩ ⟨rfl, rfl⟩ (n := 4) (by decide +kernel) rfl rfl rfl (lv_room (Nat.le_of_ble_eq_true rfl)) d_m_readAttribute_13 (fun H locs hX hS => ?_)
  refine lv_aload_n hx hb d_m_readAttribute_16 rfl (lv_at hl 0 rfl) ?_
  refine lv_bipush (v := 59) hx hb d_m_readAttribute_17 (by decide) ?_
  obtain ⟨q19, hc19, h⟩ := Option.bind_eq_some_iff.mp h
  refine ck_V (As := [.int 59]) (rest := []) (st1 := []) (M_m_must  hc19) t_1213 t_1215 p_49 t_1216 t_13 hx hb hts hown hC hX hS (hrc_m0 hC hX (by rfl)) hml hl.1 ⟨by rw [hRf]; decide, by rw [hRl]; decide⟩ ⟨rfl, rfl⟩ (n := 1) (by decide +kernel) rfl rfl rfl (lv_room (Nat.le_of_ble_eq_true rfl)) d_m_readAttribute_19 (fun H locs hX hS => ?_)
  obtain rfl := Option.some.inj h
  exact rt_v hQ hx hb hr hX hS hlk d_m_readAttribute_22
abbrev y_m_readBool : MethodName := ({ cls := "TypeGuardModel", name := "readBool", desc := "()V" } : Jvm.MethodName)
theorem d_m_readBool_0 : decode prog_14_method_21_code 0 = .ok (.aload_n 0, 1) := by decide +kernel
theorem d_m_readBool_1 : decode prog_14_method_21_code 1 = .ok (.invokevirtual 189, 3) := by decide +kernel
theorem d_m_readBool_4 : decode prog_14_method_21_code 4 = .ok (.istore_n 1, 1) := by decide +kernel
theorem d_m_readBool_5 : decode prog_14_method_21_code 5 = .ok (.iconst 3, 1) := by decide +kernel
theorem d_m_readBool_6 : decode prog_14_method_21_code 6 = .ok (.iload_n 1, 1) := by decide +kernel
theorem d_m_readBool_7 : decode prog_14_method_21_code 7 = .ok (.imul, 1) := by decide +kernel
theorem d_m_readBool_8 : decode prog_14_method_21_code 8 = .ok (.aload_n 0, 1) := by decide +kernel
theorem d_m_readBool_9 : decode prog_14_method_21_code 9 = .ok (.getfield 17, 3) := by decide +kernel
theorem d_m_readBool_12 : decode prog_14_method_21_code 12 = .ok (.iconst 5, 1) := by decide +kernel
theorem d_m_readBool_13 : decode prog_14_method_21_code 13 = .ok (.iload_n 1, 1) := by decide +kernel
theorem d_m_readBool_14 : decode prog_14_method_21_code 14 = .ok (.imul, 1) := by decide +kernel
theorem d_m_readBool_15 : decode prog_14_method_21_code 15 = .ok (.iconst 3, 1) := by decide +kernel
theorem d_m_readBool_16 : decode prog_14_method_21_code 16 = .ok (.iadd, 1) := by decide +kernel
theorem d_m_readBool_17 : decode prog_14_method_21_code 17 = .ok (.iaload, 1) := by decide +kernel
theorem d_m_readBool_18 : decode prog_14_method_21_code 18 = .ok (.iadd, 1) := by decide +kernel
theorem d_m_readBool_19 : decode prog_14_method_21_code 19 = .ok (.istore_n 2, 1) := by decide +kernel
theorem d_m_readBool_20 : decode prog_14_method_21_code 20 = .ok (.aload_n 0, 1) := by decide +kernel
theorem d_m_readBool_21 : decode prog_14_method_21_code 21 = .ok (.iconst 3, 1) := by decide +kernel
theorem d_m_readBool_22 : decode prog_14_method_21_code 22 = .ok (.aload_n 0, 1) := by decide +kernel
theorem d_m_readBool_23 : decode prog_14_method_21_code 23 = .ok (.getfield 33, 3) := by decide +kernel
theorem d_m_readBool_26 : decode prog_14_method_21_code 26 = .ok (.iconst 3, 1) := by decide +kernel
theorem d_m_readBool_27 : decode prog_14_method_21_code 27 = .ok (.iload_n 1, 1) := by decide +kernel
theorem d_m_readBool_28 : decode prog_14_method_21_code 28 = .ok (.imul, 1) := by decide +kernel
theorem d_m_readBool_29 : decode prog_14_method_21_code 29 = .ok (.iconst 3, 1) := by decide +kernel
theorem d_m_readBool_30 : decode prog_14_method_21_code 30 = .ok (.invokevirtual 208, 3) := by decide +kernel
theorem d_m_readBool_33 : decode prog_14_method_21_code 33 = .ok (.aload_n 0, 1) := by decide +kernel
theorem d_m_readBool_34 : decode prog_14_method_21_code 34 = .ok (.getfield 128, 3) := by decide +kernel
theorem d_m_readBool_37 : decode prog_14_method_21_code 37 = .ok (.iconst 1, 1) := by decide +kernel
theorem d_m_readBool_38 : decode prog_14_method_21_code 38 = .ok (.if_icmp .ne 18, 3) := by decide +kernel
theorem d_m_readBool_41 : decode prog_14_method_21_code 41 = .ok (.aload_n 0, 1) := by decide +kernel
theorem d_m_readBool_42 : decode prog_14_method_21_code 42 = .ok (.getfield 134, 3) := by decide +kernel
theorem d_m_readBool_45 : decode prog_14_method_21_code 45 = .ok (.ldc2_w 183, 3) := by decide +kernel
theorem d_m_readBool_48 : decode prog_14_method_21_code 48 = .ok (.lcmp, 1) := by decide +kernel
theorem d_m_readBool_49 : decode prog_14_method_21_code 49 = .ok (.ifCond .ne 7, 3) := by decide +kernel
theorem d_m_readBool_52 : decode prog_14_method_21_code 52 = .ok (.iconst 1, 1) := by decide +kernel
theorem d_m_readBool_53 : decode prog_14_method_21_code 53 = .ok (.goto 4, 3) := by decide +kernel
theorem d_m_readBool_56 : decode prog_14_method_21_code 56 = .ok (.iconst 0, 1) := by decide +kernel
theorem d_m_readBool_57 : decode prog_14_method_21_code 57 = .ok (.istore_n 3, 1) := by decide +kernel
theorem d_m_readBool_58 : decode prog_14_method_21_code 58 = .ok (.iload_n 3, 1) := by decide +kernel
theorem d_m_readBool_59 : decode prog_14_method_21_code 59 = .ok (.ifCond .ne 27, 3) := by decide +kernel
theorem d_m_readBool_62 : decode prog_14_method_21_code 62 = .ok (.aload_n 0, 1) := by decide +kernel
theorem d_m_readBool_63 : decode prog_14_method_21_code 63 = .ok (.getfield 128, 3) := by decide +kernel
theorem d_m_readBool_66 : decode prog_14_method_21_code 66 = .ok (.iconst 1, 1) := by decide +kernel
theorem d_m_readBool_67 : decode prog_14_method_21_code 67 = .ok (.if_icmp .ne 14, 3) := by decide +kernel
theorem d_m_readBool_70 : decode prog_14_method_21_code 70 = .ok (.aload_n 0, 1) := by decide +kernel
theorem d_m_readBool_71 : decode prog_14_method_21_code 71 = .ok (.getfield 134, 3) := by decide +kernel
theorem d_m_readBool_74 : decode prog_14_method_21_code 74 = .ok (.ldc2_w 185, 3) := by decide +kernel
theorem d_m_readBool_77 : decode prog_14_method_21_code 77 = .ok (.lcmp, 1) := by decide +kernel
theorem d_m_readBool_78 : decode prog_14_method_21_code 78 = .ok (.ifCond .eq 8, 3) := by decide +kernel
theorem d_m_readBool_81 : decode prog_14_method_21_code 81 = .ok (.aload_n 0, 1) := by decide +kernel
theorem d_m_readBool_82 : decode prog_14_method_21_code 82 = .ok (.iconst 1, 1) := by decide +kernel
theorem d_m_readBool_83 : decode prog_14_method_21_code 83 = .ok (.invokevirtual 141, 3) := by decide +kernel
theorem d_m_readBool_86 : decode prog_14_method_21_code 86 = .ok (.aload_n 0, 1) := by decide +kernel
theorem d_m_readBool_87 : decode prog_14_method_21_code 87 = .ok (.getfield 109, 3) := by decide +kernel
theorem d_m_readBool_90 : decode prog_14_method_21_code 90 = .ok (.ifCond .ne 10, 3) := by decide +kernel
theorem d_m_readBool_93 : decode prog_14_method_21_code 93 = .ok (.aload_n 0, 1) := by decide +kernel
theorem d_m_readBool_94 : decode prog_14_method_21_code 94 = .ok (.getfield 42, 3) := by decide +kernel
theorem d_m_readBool_97 : decode prog_14_method_21_code 97 = .ok (.iload_n 2, 1) := by decide +kernel
theorem d_m_readBool_98 : decode prog_14_method_21_code 98 = .ok (.iload_n 3, 1) := by decide +kernel
theorem d_m_readBool_99 : decode prog_14_method_21_code 99 = .ok (.bastore, 1) := by decide +kernel
theorem d_m_readBool_100 : decode prog_14_method_21_code 100 = .ok (.aload_n 0, 1) := by decide +kernel
theorem d_m_readBool_101 : decode prog_14_method_21_code 101 = .ok (.invokevirtual 148, 3) := by decide +kernel
theorem d_m_readBool_104 : decode prog_14_method_21_code 104 = .ok (.aload_n 0, 1) := by decide +kernel
theorem d_m_readBool_105 : decode prog_14_method_21_code 105 = .ok (.bipush 59, 2) := by decide +kernel
theorem d_m_readBool_107 : decode prog_14_method_21_code 107 = .ok (.invokevirtual 212, 3) := by decide +kernel
theorem d_m_readBool_110 : decode prog_14_method_21_code 110 = .ok (.return_, 1) := by decide +kernel
def m_readBool_J100 (S_100 : MS) : Option MS := ((m_next S_100).bind fun q101 => ((m_must 59 q101).bind fun q107 => some q107))
def m_readBool_J86 (v2_86 : Int32) (v3_86 : Bool) (S_86 : MS) : Option MS := (if (gI S_86 0 7) = 0 then (if inbd v2_86 6 = true then (bd (pB S_86 10 (txN v2_86) v3_86) fun S99 => m_readBool_J100 S99) else none) else m_readBool_J100 S_86)
def m_readBool_J81 (v2_81 : Int32) (v3_81 : Bool) (S_81 : MS) : Option MS := ((m_fail 1 S_81).bind fun q83 => m_readBool_J86 v2_81 v3_81 q83)
def m_readBool_J57 (v2_57 : Int32) (s0_57 : Bool) (S_57 : MS) : Option MS := (if s0_57 = true then m_readBool_J86 v2_57 s0_57 S_57 else (if (gI S_57 0 5) = 1 then (if (gL S_57 0 11) = 100975813 then m_readBool_J86 v2_57 s0_57 S_57 else m_readBool_J81 v2_57 s0_57 S_57) else m_readBool_J81 v2_57 s0_57 S_57))
def m_readBool_J56 (v2_56 : Int32) (S_56 : MS) : Option MS := m_readBool_J57 v2_56 false S_56
def m_readBool (S : MS) : Option MS := ((m_own S).bind fun q1 => (if inbd ((5 * q1) + 3) 10 = true then (bd (((3 * q1) + (gI S 2 (txN ((5 * q1) + 3))))) fun a19 => ((m_declare 3 7 (3 * q1) 3 S).bind fun q30 => (if (gI q30 0 5) = 1 then (if (gL q30 0 11) = 5317957 then m_readBool_J57 a19 true q30 else m_readBool_J56 a19 q30) else m_readBool_J56 a19 q30))) else none))
set_option maxHeartbeats 4000000 in
set_option maxRecDepth 100000 in
theorem M_m_readBool {l : Launch} {D : va_G} {cA : Nat → ClassId} {b : Nat} {ad : Nat → Nat}  {S : MS} {T : CS} {o : Nat → Int64} {rr : MS}  (h : m_readBool  S = some rr) : Met l y_m_readBool (Cond.code y_m_readBool prog_14_method_21_code 4 (Option.none : Option Jvm.ClassFile.FieldType) :: TW) { frames := 5, cells := 0, slots := 0, locals := 105 } (va_Pc [.ref (b + 262)] (Rp D cA b ad (T, S, o))) (Qr D cA b ad (T, rr, o) none) 0 0 (Ab b) := by
  refine Ct_of (by decide) (Nat.le_of_ble_eq_true rfl) ?_
  intro p e R s m args below meth c ls Q H locs hR hQ hx hb hts hown hml hr hlk hC hX hS hl
  have hRf : R.frames = 5 := by rw [hR]
  have hRl : R.locals = 105 := by rw [hR]
  have hown : s.vm.findClass "TypeGuardModel" = some m.cls := hown
  have hl : lv_has ls 4 [(0, .ref (b + 262))] := hl
  rw [m_readBool] at h
  refine lv_aload_n hx hb d_m_readBool_0 rfl (lv_at hl 0 rfl) ?_
  obtain ⟨q1, hc1, h⟩ := Option.bind_eq_some_iff.mp h
  refine ck_V (As := []) (rest := []) (st1 := [.int q1]) (M_m_own  hc1) t_1145 t_1147 p_38 t_1148 t_13 hx hb hts hown hC hX hS (hrc_m0 hC hX (by rfl)) hml hl.1 ⟨by rw [hRf]; decide, by rw [hRl]; decide⟩ ⟨rfl, rfl⟩ (n := 0) (by decide +kernel) rfl rfl rfl (lv_room (Nat.le_of_ble_eq_true rfl)) d_m_readBool_1 (fun H locs hX hS => ?_)
  refine lv_istore_n (lv' := [(1, .int q1), (0, .ref (b + 262))]) hx hb d_m_readBool_4 rfl hl (by decide) rfl (fun ls hl => ?_)
  refine lv_iconst (v := 3) hx hb d_m_readBool_5 (by decide) ?_
  refine lv_iload_n hx hb d_m_readBool_6 rfl (lv_at hl 0 rfl) ?_
  refine lv_imul hx hb d_m_readBool_7 ?_
  refine lv_aload_n hx hb d_m_readBool_8 rfl (lv_at hl 1 rfl) ?_
  refine m_get_0_13 hx hb hts hown hC hX (by rfl) (hts _ t_1000) d_m_readBool_9 ?_
  refine lv_iconst (v := 5) hx hb d_m_readBool_12 (by decide) ?_
  refine lv_iload_n hx hb d_m_readBool_13 rfl (lv_at hl 0 rfl) ?_
  refine lv_imul hx hb d_m_readBool_14 ?_
  refine lv_iconst (v := 3) hx hb d_m_readBool_15 (by decide) ?_
  refine lv_iadd hx hb d_m_readBool_16 ?_
  by_cases hg17 : inbd ((5 * q1) + 3) 10 = true
  rotate_left; · rw [if_neg hg17] at h; cases h
  rw [if_pos hg17] at h
  refine m_ald_1 (k := 2) hx hb hC hX (by rfl) hg17 d_m_readBool_17 ?_
  refine lv_iadd hx hb d_m_readBool_18 ?_
  obtain ⟨a19, e19, h⟩ := bd_some h
  refine lt_I e19 ?_
  refine lv_istore_n (lv' := [(2, .int a19), (1, .int q1), (0, .ref (b + 262))]) hx hb d_m_readBool_19 rfl hl (by decide) rfl (fun ls hl => ?_)
  refine lv_aload_n hx hb d_m_readBool_20 rfl (lv_at hl 2 rfl) ?_
  refine lv_iconst (v := 3) hx hb d_m_readBool_21 (by decide) ?_
  refine lv_aload_n hx hb d_m_readBool_22 rfl (lv_at hl 2 rfl) ?_
  refine m_get_0_18 hx hb hts hown hC hX (by rfl) (hts _ t_1005) d_m_readBool_23 ?_
  refine lv_iconst (v := 3) hx hb d_m_readBool_26 (by decide) ?_
  refine lv_iload_n hx hb d_m_readBool_27 rfl (lv_at hl 1 rfl) ?_
  refine lv_imul hx hb d_m_readBool_28 ?_
  refine lv_iconst (v := 3) hx hb d_m_readBool_29 (by decide) ?_
  obtain ⟨q30, hc30, h⟩ := Option.bind_eq_some_iff.mp h
  refine ck_V (As := [.int 3, .ref (b + 269), .int (3 * q1), .int 3]) (rest := []) (st1 := []) (M_m_declare (by rfl) hc30) t_1238 t_1240 p_55 t_1241 t_13 hx hb hts hown hC hX hS (hrc_m0 hC hX (by rfl)) hml hl.1 ⟨by rw [hRf]; decide, by rw [hRl]; decide⟩ ⟨rfl, rfl⟩ (n := 4) (by decide +kernel) rfl rfl rfl (lv_room (Nat.le_of_ble_eq_true rfl)) d_m_readBool_30 (fun H locs hX hS => ?_)
  refine lv_aload_n hx hb d_m_readBool_33 rfl (lv_at hl 2 rfl) ?_
  refine m_get_0_5 hx hb hts hown hC hX (by rfl) (hts _ t_992) d_m_readBool_34 ?_
  refine lv_iconst (v := 1) hx hb d_m_readBool_37 (by decide) ?_
  have J57 : ∀ (s0_57 : Bool) (H : Heap) (locs : List Loc) (ls : Array Slot), hp D cA b ad (T, q30, o) H → va_S (Ab b) s.heap H locs → lv_has ls 4 [(0, .ref (b + 262)), (2, .int a19)] → m_readBool_J57 a19 s0_57 q30 = some rr → W p l e R s m args below meth c H locs 0 0 Q (F0 m 57 ls [.int (bI s0_57)]) := by
    intro s0_57 H locs ls  hX hS hl h
    rw [m_readBool_J57] at h
    refine lv_istore_n (lv' := [(3, .int (bI s0_57)), (0, .ref (b + 262)), (2, .int a19)]) hx hb d_m_readBool_57 rfl hl (by decide) rfl (fun ls hl => ?_)
    refine lv_iload_n hx hb d_m_readBool_58 rfl (lv_at hl 0 rfl) ?_
    have J86 : ∀ (S_86 : MS) (H : Heap) (locs : List Loc) (ls : Array Slot), hp D cA b ad (T, S_86, o) H → va_S (Ab b) s.heap H locs → lv_has ls 4 [(0, .ref (b + 262)), (2, .int a19), (3, .int (bI s0_57))] → m_readBool_J86 a19 s0_57 S_86 = some rr → W p l e R s m args below meth c H locs 0 0 Q (F0 m 86 ls []) := by
      intro S_86 H locs ls  hX hS hl h
      rw [m_readBool_J86] at h
      refine lv_aload_n hx hb d_m_readBool_86 rfl (lv_at hl 0 rfl) ?_
      refine m_get_0_7 hx hb hts hown hC hX (by rfl) (hts _ t_994) d_m_readBool_87 ?_
      have J100 : ∀ (S_100 : MS) (H : Heap) (locs : List Loc) (ls : Array Slot), hp D cA b ad (T, S_100, o) H → va_S (Ab b) s.heap H locs → lv_has ls 4 [(0, .ref (b + 262))] → m_readBool_J100 S_100 = some rr → W p l e R s m args below meth c H locs 0 0 Q (F0 m 100 ls []) := by
        intro S_100 H locs ls  hX hS hl h
        rw [m_readBool_J100] at h
        refine lv_aload_n hx hb d_m_readBool_100 rfl (lv_at hl 0 rfl) ?_
        obtain ⟨q101, hc101, h⟩ := Option.bind_eq_some_iff.mp h
        refine ck_V (As := []) (rest := []) (st1 := []) (M_m_next  hc101) t_1149 t_1151 p_39 t_1152 t_13 hx hb hts hown hC hX hS (hrc_m0 hC hX (by rfl)) hml hl.1 ⟨by rw [hRf]; decide, by rw [hRl]; decide⟩ ⟨rfl, rfl⟩ (n := 0) (by decide +kernel) rfl rfl rfl (lv_room (Nat.le_of_ble_eq_true rfl)) d_m_readBool_101 (fun H locs hX hS => ?_)
        refine lv_aload_n hx hb d_m_readBool_104 rfl (lv_at hl 0 rfl) ?_
        refine lv_bipush (v := 59) hx hb d_m_readBool_105 (by decide) ?_
        obtain ⟨q107, hc107, h⟩ := Option.bind_eq_some_iff.mp h
        refine ck_V (As := [.int 59]) (rest := []) (st1 := []) (M_m_must  hc107) t_1213 t_1215 p_49 t_1216 t_13 hx hb hts hown hC hX hS (hrc_m0 hC hX (by rfl)) hml hl.1 ⟨by rw [hRf]; decide, by rw [hRl]; decide⟩ ⟨rfl, rfl⟩ (n := 1) (by decide +kernel) rfl rfl rfl (lv_room (Nat.le_of_ble_eq_true rfl)) d_m_readBool_107 (fun H locs hX hS => ?_)
        obtain rfl := Option.some.inj h
        exact rt_v hQ hx hb hr hX hS hlk d_m_readBool_110
      refine lv_if_ne hx hb d_m_readBool_90 (tgt := 100) (by decide) (fun hc => ?_) (fun hc => ?_)
      · rw [if_neg hc] at h
        exact J100 S_86 H locs ls  hX hS (lv_sub hl [0] rfl) h
      · rw [if_pos hc] at h
        refine lv_aload_n hx hb d_m_readBool_93 rfl (lv_at hl 0 rfl) ?_
        refine m_get_0_21 hx hb hts hown hC hX (by rfl) (hts _ t_1008) d_m_readBool_94 ?_
        refine lv_iload_n hx hb d_m_readBool_97 rfl (lv_at hl 1 rfl) ?_
        refine lv_iload_n hx hb d_m_readBool_98 rfl (lv_at hl 2 rfl) ?_
        by_cases hg99 : inbd a19 6 = true
        rotate_left; · rw [if_neg hg99] at h; cases h
        rw [if_pos hg99] at h
        refine m_ast_3 (k := 10) (v := s0_57) hx hb hC hX hS (by rfl) hg99 d_m_readBool_99 (fun H locs hX hS => ?_)
        obtain ⟨S99, e99, h⟩ := bd_some h
        rw [← e99] at hX
        exact J100 S99 H locs ls  hX hS (lv_sub hl [0] rfl) h
    refine lz_ifne hx hb d_m_readBool_59 (tgt := 86) (by decide) (fun hc => ?_) (fun hc => ?_)
    · rw [if_pos hc] at h
      exact J86 q30 H locs ls  hX hS (lv_sub hl [1, 2, 0] rfl) h
    · rw [if_neg hc] at h
      refine lv_aload_n hx hb d_m_readBool_62 rfl (lv_at hl 1 rfl) ?_
      refine m_get_0_5 hx hb hts hown hC hX (by rfl) (hts _ t_992) d_m_readBool_63 ?_
      refine lv_iconst (v := 1) hx hb d_m_readBool_66 (by decide) ?_
      have J81 : ∀  (H : Heap) (locs : List Loc) (ls : Array Slot), hp D cA b ad (T, q30, o) H → va_S (Ab b) s.heap H locs → lv_has ls 4 [(0, .ref (b + 262)), (2, .int a19), (3, .int (bI s0_57))] → m_readBool_J81 a19 s0_57 q30 = some rr → W p l e R s m args below meth c H locs 0 0 Q (F0 m 81 ls []) := by
        intro  H locs ls  hX hS hl h
        rw [m_readBool_J81] at h
        refine lv_aload_n hx hb d_m_readBool_81 rfl (lv_at hl 0 rfl) ?_
        refine lv_iconst (v := 1) hx hb d_m_readBool_82 (by decide) ?_
        obtain ⟨q83, hc83, h⟩ := Option.bind_eq_some_iff.mp h
        refine ck_V (As := [.int 1]) (rest := []) (st1 := []) (M_m_fail  hc83) t_1159 t_1161 p_40 t_1162 t_13 hx hb hts hown hC hX hS (hrc_m0 hC hX (by rfl)) hml hl.1 ⟨by rw [hRf]; decide, by rw [hRl]; decide⟩ ⟨rfl, rfl⟩ (n := 1) (by decide +kernel) rfl rfl rfl (lv_room (Nat.le_of_ble_eq_true rfl)) d_m_readBool_83 (fun H locs hX hS => ?_)
        exact J86 q83 H locs ls  hX hS (lv_sub hl [0, 1, 2] rfl) h
      refine lv_icmp_ne hx hb d_m_readBool_67 (tgt := 81) (by decide) (fun hc => ?_) (fun hc => ?_)
      · rw [if_neg hc] at h
        exact J81  H locs ls  hX hS (lv_sub hl [1, 2, 0] rfl) h
      · rw [if_pos hc] at h
        refine lv_aload_n hx hb d_m_readBool_70 rfl (lv_at hl 1 rfl) ?_
        refine m_get_0_11 hx hb hts hown hC hX (by rfl) (hts _ t_998) d_m_readBool_71 ?_
        refine lv_ldc2 (v := 100975813) hx hb hown (hts _ t_1247) d_m_readBool_74 ?_
        refine lx_ifeq hx hb d_m_readBool_77 d_m_readBool_78 (tgt := 86) (by decide) (fun hc => ?_) (fun hc => ?_)
        · rw [if_pos hc] at h
          exact J86 q30 H locs ls  hX hS (lv_sub hl [1, 2, 0] rfl) h
        · rw [if_neg hc] at h
          exact J81  H locs ls  hX hS (lv_sub hl [1, 2, 0] rfl) h
  have J56 : ∀  (H : Heap) (locs : List Loc) (ls : Array Slot), hp D cA b ad (T, q30, o) H → va_S (Ab b) s.heap H locs → lv_has ls 4 [(0, .ref (b + 262)), (2, .int a19)] → m_readBool_J56 a19 q30 = some rr → W p l e R s m args below meth c H locs 0 0 Q (F0 m 56 ls []) := by
    intro  H locs ls  hX hS hl h
    rw [m_readBool_J56] at h
    refine lv_iconst (v := 0) hx hb d_m_readBool_56 (by decide) ?_
    exact J57 false H locs ls  hX hS (lv_sub hl [0, 1] rfl) h
  refine lv_icmp_ne hx hb d_m_readBool_38 (tgt := 56) (by decide) (fun hc => ?_) (fun hc => ?_)
  · rw [if_neg hc] at h
    exact J56  H locs ls  hX hS (lv_sub hl [2, 0] rfl) h
  · rw [if_pos hc] at h
    refine lv_aload_n hx hb d_m_readBool_41 rfl (lv_at hl 2 rfl) ?_
    refine m_get_0_11 hx hb hts hown hC hX (by rfl) (hts _ t_998) d_m_readBool_42 ?_
    refine lv_ldc2 (v := 5317957) hx hb hown (hts _ t_1246) d_m_readBool_45 ?_
    refine lx_ifne hx hb d_m_readBool_48 d_m_readBool_49 (tgt := 56) (by decide) (fun hc => ?_) (fun hc => ?_)
    · rw [if_neg hc] at h
      exact J56  H locs ls  hX hS (lv_sub hl [2, 0] rfl) h
    · rw [if_pos hc] at h
      refine lv_iconst (v := 1) hx hb d_m_readBool_52 (by decide) ?_
      refine lv_goto hx hb d_m_readBool_53 (tgt := 57) (by decide) ?_
      exact J57 true H locs ls  hX hS (lv_sub hl [2, 0] rfl) h
abbrev y_m_readItem : MethodName := ({ cls := "TypeGuardModel", name := "readItem", desc := "()I" } : Jvm.MethodName)
theorem d_m_readItem_0 : decode prog_14_method_22_code 0 = .ok (.aload_n 0, 1) := by decide +kernel
theorem d_m_readItem_1 : decode prog_14_method_22_code 1 = .ok (.invokevirtual 189, 3) := by decide +kernel
theorem d_m_readItem_4 : decode prog_14_method_22_code 4 = .ok (.istore_n 1, 1) := by decide +kernel
theorem d_m_readItem_5 : decode prog_14_method_22_code 5 = .ok (.aload_n 0, 1) := by decide +kernel
theorem d_m_readItem_6 : decode prog_14_method_22_code 6 = .ok (.invokevirtual 193, 3) := by decide +kernel
theorem d_m_readItem_9 : decode prog_14_method_22_code 9 = .ok (.ifCond .ne 5, 3) := by decide +kernel
theorem d_m_readItem_12 : decode prog_14_method_22_code 12 = .ok (.iconst 0, 1) := by decide +kernel
theorem d_m_readItem_13 : decode prog_14_method_22_code 13 = .ok (.ireturn, 1) := by decide +kernel
theorem d_m_readItem_14 : decode prog_14_method_22_code 14 = .ok (.aload_n 0, 1) := by decide +kernel
theorem d_m_readItem_15 : decode prog_14_method_22_code 15 = .ok (.iload_n 1, 1) := by decide +kernel
theorem d_m_readItem_16 : decode prog_14_method_22_code 16 = .ok (.aload_n 0, 1) := by decide +kernel
theorem d_m_readItem_17 : decode prog_14_method_22_code 17 = .ok (.getfield 134, 3) := by decide +kernel
theorem d_m_readItem_20 : decode prog_14_method_22_code 20 = .ok (.invokevirtual 201, 3) := by decide +kernel
theorem d_m_readItem_23 : decode prog_14_method_22_code 23 = .ok (.istore_n 2, 1) := by decide +kernel
theorem d_m_readItem_24 : decode prog_14_method_22_code 24 = .ok (.aload_n 0, 1) := by decide +kernel
theorem d_m_readItem_25 : decode prog_14_method_22_code 25 = .ok (.getfield 24, 3) := by decide +kernel
theorem d_m_readItem_28 : decode prog_14_method_22_code 28 = .ok (.iconst 4, 1) := by decide +kernel
theorem d_m_readItem_29 : decode prog_14_method_22_code 29 = .ok (.iload_n 1, 1) := by decide +kernel
theorem d_m_readItem_30 : decode prog_14_method_22_code 30 = .ok (.imul, 1) := by decide +kernel
theorem d_m_readItem_31 : decode prog_14_method_22_code 31 = .ok (.aload_n 0, 1) := by decide +kernel
theorem d_m_readItem_32 : decode prog_14_method_22_code 32 = .ok (.getfield 17, 3) := by decide +kernel
theorem d_m_readItem_35 : decode prog_14_method_22_code 35 = .ok (.iconst 5, 1) := by decide +kernel
theorem d_m_readItem_36 : decode prog_14_method_22_code 36 = .ok (.iload_n 1, 1) := by decide +kernel
theorem d_m_readItem_37 : decode prog_14_method_22_code 37 = .ok (.imul, 1) := by decide +kernel
theorem d_m_readItem_38 : decode prog_14_method_22_code 38 = .ok (.iconst 1, 1) := by decide +kernel
theorem d_m_readItem_39 : decode prog_14_method_22_code 39 = .ok (.iadd, 1) := by decide +kernel
theorem d_m_readItem_40 : decode prog_14_method_22_code 40 = .ok (.iaload, 1) := by decide +kernel
theorem d_m_readItem_41 : decode prog_14_method_22_code 41 = .ok (.aload_n 0, 1) := by decide +kernel
theorem d_m_readItem_42 : decode prog_14_method_22_code 42 = .ok (.getfield 134, 3) := by decide +kernel
theorem d_m_readItem_45 : decode prog_14_method_22_code 45 = .ok (.invokestatic 157, 3) := by decide +kernel
theorem d_m_readItem_48 : decode prog_14_method_22_code 48 = .ok (.istore_n 3, 1) := by decide +kernel
theorem d_m_readItem_49 : decode prog_14_method_22_code 49 = .ok (.iload_n 2, 1) := by decide +kernel
theorem d_m_readItem_50 : decode prog_14_method_22_code 50 = .ok (.ifCond .ge 12, 3) := by decide +kernel
theorem d_m_readItem_53 : decode prog_14_method_22_code 53 = .ok (.iload_n 3, 1) := by decide +kernel
theorem d_m_readItem_54 : decode prog_14_method_22_code 54 = .ok (.ifCond .ge 8, 3) := by decide +kernel
theorem d_m_readItem_57 : decode prog_14_method_22_code 57 = .ok (.aload_n 0, 1) := by decide +kernel
theorem d_m_readItem_58 : decode prog_14_method_22_code 58 = .ok (.iconst 2, 1) := by decide +kernel
theorem d_m_readItem_59 : decode prog_14_method_22_code 59 = .ok (.invokevirtual 141, 3) := by decide +kernel
theorem d_m_readItem_62 : decode prog_14_method_22_code 62 = .ok (.aload_n 0, 1) := by decide +kernel
theorem d_m_readItem_63 : decode prog_14_method_22_code 63 = .ok (.invokevirtual 148, 3) := by decide +kernel
theorem d_m_readItem_66 : decode prog_14_method_22_code 66 = .ok (.aload_n 0, 1) := by decide +kernel
theorem d_m_readItem_67 : decode prog_14_method_22_code 67 = .ok (.getfield 109, 3) := by decide +kernel
theorem d_m_readItem_70 : decode prog_14_method_22_code 70 = .ok (.ifCond .eq 7, 3) := by decide +kernel
theorem d_m_readItem_73 : decode prog_14_method_22_code 73 = .ok (.iconst 0, 1) := by decide +kernel
theorem d_m_readItem_74 : decode prog_14_method_22_code 74 = .ok (.goto 19, 3) := by decide +kernel
theorem d_m_readItem_77 : decode prog_14_method_22_code 77 = .ok (.iload_n 2, 1) := by decide +kernel
theorem d_m_readItem_78 : decode prog_14_method_22_code 78 = .ok (.ifCond .lt 9, 3) := by decide +kernel
theorem d_m_readItem_81 : decode prog_14_method_22_code 81 = .ok (.iconst 1, 1) := by decide +kernel
theorem d_m_readItem_82 : decode prog_14_method_22_code 82 = .ok (.iload_n 2, 1) := by decide +kernel
theorem d_m_readItem_83 : decode prog_14_method_22_code 83 = .ok (.ishl, 1) := by decide +kernel
theorem d_m_readItem_84 : decode prog_14_method_22_code 84 = .ok (.goto 9, 3) := by decide +kernel
theorem d_m_readItem_87 : decode prog_14_method_22_code 87 = .ok (.iconst 1, 1) := by decide +kernel
theorem d_m_readItem_88 : decode prog_14_method_22_code 88 = .ok (.bipush 12, 2) := by decide +kernel
theorem d_m_readItem_90 : decode prog_14_method_22_code 90 = .ok (.iload_n 3, 1) := by decide +kernel
theorem d_m_readItem_91 : decode prog_14_method_22_code 91 = .ok (.iadd, 1) := by decide +kernel
theorem d_m_readItem_92 : decode prog_14_method_22_code 92 = .ok (.ishl, 1) := by decide +kernel
theorem d_m_readItem_93 : decode prog_14_method_22_code 93 = .ok (.ireturn, 1) := by decide +kernel
def m_readItem_J62 (v2_62 : Int32) (v3_62 : Int32) (S_62 : MS) : Option (MS × Int32) := ((m_next S_62).bind fun q63 => (if (gI q63 0 7) = 0 then (if v2_62 < 0 then some (q63, (1 <<< ((12 + v3_62) &&& 31))) else some (q63, (1 <<< (v2_62 &&& 31)))) else some (q63, 0)))
def m_readItem (S : MS) : Option (MS × Int32) := ((m_own S).bind fun q1 => ((m_isName S).bind fun q6 => (if q6.2 = true then ((m_typeOf q1 (gL q6.1 0 11) q6.1).bind fun q20 => (if inbd ((5 * q1) + 1) 10 = true then ((m_find 4 (4 * q1) (gI q6.1 2 (txN ((5 * q1) + 1))) (gL q6.1 0 11) q6.1).bind fun q45 => (if 0 ≤ q20 then m_readItem_J62 q20 q45 q6.1 else (if 0 ≤ q45 then m_readItem_J62 q20 q45 q6.1 else ((m_fail 2 q6.1).bind fun q59 => m_readItem_J62 q20 q45 q59)))) else none)) else some (q6.1, 0))))
set_option maxHeartbeats 4000000 in
set_option maxRecDepth 100000 in
theorem M_m_readItem {l : Launch} {D : va_G} {cA : Nat → ClassId} {b : Nat} {ad : Nat → Nat}  {S : MS} {T : CS} {o : Nat → Int64} {rr : (MS × Int32)}  (h : m_readItem  S = some rr) : Met l y_m_readItem (Cond.code y_m_readItem prog_14_method_22_code 4 (Option.some Jvm.ClassFile.FieldType.int) :: TW) { frames := 3, cells := 0, slots := 0, locals := 62 } (va_Pc [.ref (b + 262)] (Rp D cA b ad (T, S, o))) (Qr D cA b ad (T, rr.1, o) (some (.int rr.2))) 0 0 (Ab b) := by
  refine Ct_of (by decide) (Nat.le_of_ble_eq_true rfl) ?_
  intro p e R s m args below meth c ls Q H locs hR hQ hx hb hts hown hml hr hlk hC hX hS hl
  have hRf : R.frames = 3 := by rw [hR]
  have hRl : R.locals = 62 := by rw [hR]
  have hown : s.vm.findClass "TypeGuardModel" = some m.cls := hown
  have hl : lv_has ls 4 [(0, .ref (b + 262))] := hl
  rw [m_readItem] at h
  refine lv_aload_n hx hb d_m_readItem_0 rfl (lv_at hl 0 rfl) ?_
  obtain ⟨q1, hc1, h⟩ := Option.bind_eq_some_iff.mp h
  refine ck_V (As := []) (rest := []) (st1 := [.int q1]) (M_m_own  hc1) t_1145 t_1147 p_38 t_1148 t_13 hx hb hts hown hC hX hS (hrc_m0 hC hX (by rfl)) hml hl.1 ⟨by rw [hRf]; decide, by rw [hRl]; decide⟩ ⟨rfl, rfl⟩ (n := 0) (by decide +kernel) rfl rfl rfl (lv_room (Nat.le_of_ble_eq_true rfl)) d_m_readItem_1 (fun H locs hX hS => ?_)
  refine lv_istore_n (lv' := [(1, .int q1), (0, .ref (b + 262))]) hx hb d_m_readItem_4 rfl hl (by decide) rfl (fun ls hl => ?_)
  refine lv_aload_n hx hb d_m_readItem_5 rfl (lv_at hl 1 rfl) ?_
  obtain ⟨q6, hc6, h⟩ := Option.bind_eq_some_iff.mp h
  refine ck_V (As := []) (rest := []) (st1 := [.int (bI q6.2)]) (M_m_isName  hc6) t_1202 t_1204 p_47 t_1205 t_13 hx hb hts hown hC hX hS (hrc_m0 hC hX (by rfl)) hml hl.1 ⟨by rw [hRf]; decide, by rw [hRl]; decide⟩ ⟨rfl, rfl⟩ (n := 0) (by decide +kernel) rfl rfl rfl (lv_room (Nat.le_of_ble_eq_true rfl)) d_m_readItem_6 (fun H locs hX hS => ?_)
  refine lz_ifne hx hb d_m_readItem_9 (tgt := 14) (by decide) (fun hc => ?_) (fun hc => ?_)
  · rw [if_pos hc] at h
    refine lv_aload_n hx hb d_m_readItem_14 rfl (lv_at hl 1 rfl) ?_
    refine lv_iload_n hx hb d_m_readItem_15 rfl (lv_at hl 0 rfl) ?_
    refine lv_aload_n hx hb d_m_readItem_16 rfl (lv_at hl 1 rfl) ?_
    refine m_get_0_11 hx hb hts hown hC hX (by rfl) (hts _ t_998) d_m_readItem_17 ?_
    obtain ⟨q20, hc20, h⟩ := Option.bind_eq_some_iff.mp h
    refine ck_V (As := [.int q1, .long (gL q6.1 0 11)]) (rest := []) (st1 := [.int q20]) (M_m_typeOf  hc20) t_1206 t_1208 p_48 t_1209 t_13 hx hb hts hown hC hX hS (hrc_m0 hC hX (by rfl)) hml hl.1 ⟨by rw [hRf]; decide, by rw [hRl]; decide⟩ ⟨rfl, rfl⟩ (n := 2) (by decide +kernel) rfl rfl rfl (lv_room (Nat.le_of_ble_eq_true rfl)) d_m_readItem_20 (fun H locs hX hS => ?_)
    refine lv_istore_n (lv' := [(2, .int q20), (1, .int q1), (0, .ref (b + 262))]) hx hb d_m_readItem_23 rfl hl (by decide) rfl (fun ls hl => ?_)
    refine lv_aload_n hx hb d_m_readItem_24 rfl (lv_at hl 2 rfl) ?_
    refine m_get_0_15 hx hb hts hown hC hX (by rfl) (hts _ t_1002) d_m_readItem_25 ?_
    refine lv_iconst (v := 4) hx hb d_m_readItem_28 (by decide) ?_
    refine lv_iload_n hx hb d_m_readItem_29 rfl (lv_at hl 1 rfl) ?_
    refine lv_imul hx hb d_m_readItem_30 ?_
    refine lv_aload_n hx hb d_m_readItem_31 rfl (lv_at hl 2 rfl) ?_
    refine m_get_0_13 hx hb hts hown hC hX (by rfl) (hts _ t_1000) d_m_readItem_32 ?_
    refine lv_iconst (v := 5) hx hb d_m_readItem_35 (by decide) ?_
    refine lv_iload_n hx hb d_m_readItem_36 rfl (lv_at hl 1 rfl) ?_
    refine lv_imul hx hb d_m_readItem_37 ?_
    refine lv_iconst (v := 1) hx hb d_m_readItem_38 (by decide) ?_
    refine lv_iadd hx hb d_m_readItem_39 ?_
    by_cases hg40 : inbd ((5 * q1) + 1) 10 = true
    rotate_left; · rw [if_neg hg40] at h; cases h
    rw [if_pos hg40] at h
    refine m_ald_1 (k := 2) hx hb hC hX (by rfl) hg40 d_m_readItem_40 ?_
    refine lv_aload_n hx hb d_m_readItem_41 rfl (lv_at hl 2 rfl) ?_
    refine m_get_0_11 hx hb hts hown hC hX (by rfl) (hts _ t_998) d_m_readItem_42 ?_
    obtain ⟨q45, hc45, h⟩ := Option.bind_eq_some_iff.mp h
    refine ck_S (As := [.ref (b + 266), .int (4 * q1), .int (gI q6.1 2 (txN ((5 * q1) + 1))), .long (gL q6.1 0 11)]) (rest := []) (st1 := [.int q45]) (M_m_find (by rfl) hc45) t_1210 t_1211 t_1212 t_13 hx hb hts hown hC hX hS  hml hl.1 ⟨by rw [hRf]; decide, by rw [hRl]; decide⟩ ⟨rfl, rfl⟩ (n := 4) (by decide +kernel) rfl rfl rfl (lv_room (Nat.le_of_ble_eq_true rfl)) d_m_readItem_45 (fun H locs hX hS => ?_)
    refine lv_istore_n (lv' := [(3, .int q45), (2, .int q20), (1, .int q1), (0, .ref (b + 262))]) hx hb d_m_readItem_48 rfl hl (by decide) rfl (fun ls hl => ?_)
    refine lv_iload_n hx hb d_m_readItem_49 rfl (lv_at hl 1 rfl) ?_
    have J62 : ∀ (S_62 : MS) (H : Heap) (locs : List Loc) (ls : Array Slot), hp D cA b ad (T, S_62, o) H → va_S (Ab b) s.heap H locs → lv_has ls 4 [(0, .ref (b + 262)), (2, .int q20), (3, .int q45)] → m_readItem_J62 q20 q45 S_62 = some rr → W p l e R s m args below meth c H locs 0 0 Q (F0 m 62 ls []) := by
      intro S_62 H locs ls  hX hS hl h
      rw [m_readItem_J62] at h
      refine lv_aload_n hx hb d_m_readItem_62 rfl (lv_at hl 0 rfl) ?_
      obtain ⟨q63, hc63, h⟩ := Option.bind_eq_some_iff.mp h
      refine ck_V (As := []) (rest := []) (st1 := []) (M_m_next  hc63) t_1149 t_1151 p_39 t_1152 t_13 hx hb hts hown hC hX hS (hrc_m0 hC hX (by rfl)) hml hl.1 ⟨by rw [hRf]; decide, by rw [hRl]; decide⟩ ⟨rfl, rfl⟩ (n := 0) (by decide +kernel) rfl rfl rfl (lv_room (Nat.le_of_ble_eq_true rfl)) d_m_readItem_63 (fun H locs hX hS => ?_)
      refine lv_aload_n hx hb d_m_readItem_66 rfl (lv_at hl 0 rfl) ?_
      refine m_get_0_7 hx hb hts hown hC hX (by rfl) (hts _ t_994) d_m_readItem_67 ?_
      refine lv_if_eq hx hb d_m_readItem_70 (tgt := 77) (by decide) (fun hc => ?_) (fun hc => ?_)
      · rw [if_pos hc] at h
        refine lv_iload_n hx hb d_m_readItem_77 rfl (lv_at hl 1 rfl) ?_
        refine lv_if_lt hx hb d_m_readItem_78 (tgt := 87) (by decide) (fun hc => ?_) (fun hc => ?_)
        · rw [if_pos hc] at h
          refine lv_iconst (v := 1) hx hb d_m_readItem_87 (by decide) ?_
          refine lv_bipush (v := 12) hx hb d_m_readItem_88 (by decide) ?_
          refine lv_iload_n hx hb d_m_readItem_90 rfl (lv_at hl 2 rfl) ?_
          refine lv_iadd hx hb d_m_readItem_91 ?_
          refine lv_ishl hx hb d_m_readItem_92 ?_
          obtain rfl := Option.some.inj h
          exact rt_i hQ hx hb hr hX hS hlk d_m_readItem_93
        · rw [if_neg hc] at h
          refine lv_iconst (v := 1) hx hb d_m_readItem_81 (by decide) ?_
          refine lv_iload_n hx hb d_m_readItem_82 rfl (lv_at hl 1 rfl) ?_
          refine lv_ishl hx hb d_m_readItem_83 ?_
          refine lv_goto hx hb d_m_readItem_84 (tgt := 93) (by decide) ?_
          obtain rfl := Option.some.inj h
          exact rt_i hQ hx hb hr hX hS hlk d_m_readItem_93
      · rw [if_neg hc] at h
        refine lv_iconst (v := 0) hx hb d_m_readItem_73 (by decide) ?_
        refine lv_goto hx hb d_m_readItem_74 (tgt := 93) (by decide) ?_
        obtain rfl := Option.some.inj h
        exact rt_i hQ hx hb hr hX hS hlk d_m_readItem_93
    refine lv_if_ge hx hb d_m_readItem_50 (tgt := 62) (by decide) (fun hc => ?_) (fun hc => ?_)
    · rw [if_pos hc] at h
      exact J62 q6.1 H locs ls  hX hS (lv_sub hl [3, 1, 0] rfl) h
    · rw [if_neg hc] at h
      refine lv_iload_n hx hb d_m_readItem_53 rfl (lv_at hl 0 rfl) ?_
      refine lv_if_ge hx hb d_m_readItem_54 (tgt := 62) (by decide) (fun hc => ?_) (fun hc => ?_)
      · rw [if_pos hc] at h
        exact J62 q6.1 H locs ls  hX hS (lv_sub hl [3, 1, 0] rfl) h
      · rw [if_neg hc] at h
        refine lv_aload_n hx hb d_m_readItem_57 rfl (lv_at hl 3 rfl) ?_
        refine lv_iconst (v := 2) hx hb d_m_readItem_58 (by decide) ?_
        obtain ⟨q59, hc59, h⟩ := Option.bind_eq_some_iff.mp h
        refine ck_V (As := [.int 2]) (rest := []) (st1 := []) (M_m_fail  hc59) t_1159 t_1161 p_40 t_1162 t_13 hx hb hts hown hC hX hS (hrc_m0 hC hX (by rfl)) hml hl.1 ⟨by rw [hRf]; decide, by rw [hRl]; decide⟩ ⟨rfl, rfl⟩ (n := 1) (by decide +kernel) rfl rfl rfl (lv_room (Nat.le_of_ble_eq_true rfl)) d_m_readItem_59 (fun H locs hX hS => ?_)
        exact J62 q59 H locs ls  hX hS (lv_sub hl [3, 1, 0] rfl) h
  · rw [if_neg hc] at h
    refine lv_iconst (v := 0) hx hb d_m_readItem_12 (by decide) ?_
    obtain rfl := Option.some.inj h
    exact rt_i hQ hx hb hr hX hS hlk d_m_readItem_13
abbrev y_m_readSet : MethodName := ({ cls := "TypeGuardModel", name := "readSet", desc := "(I)V" } : Jvm.MethodName)
theorem d_m_readSet_0 : decode prog_14_method_23_code 0 = .ok (.aload_n 0, 1) := by decide +kernel
theorem d_m_readSet_1 : decode prog_14_method_23_code 1 = .ok (.getfield 76, 3) := by decide +kernel
theorem d_m_readSet_4 : decode prog_14_method_23_code 4 = .ok (.iload_n 1, 1) := by decide +kernel
theorem d_m_readSet_5 : decode prog_14_method_23_code 5 = .ok (.aload_n 0, 1) := by decide +kernel
theorem d_m_readSet_6 : decode prog_14_method_23_code 6 = .ok (.bipush 126, 2) := by decide +kernel
theorem d_m_readSet_8 : decode prog_14_method_23_code 8 = .ok (.invokevirtual 151, 3) := by decide +kernel
theorem d_m_readSet_11 : decode prog_14_method_23_code 11 = .ok (.ifCond .eq 8, 3) := by decide +kernel
theorem d_m_readSet_14 : decode prog_14_method_23_code 14 = .ok (.ldc 215, 2) := by decide +kernel
theorem d_m_readSet_16 : decode prog_14_method_23_code 16 = .ok (.goto 4, 3) := by decide +kernel
theorem d_m_readSet_19 : decode prog_14_method_23_code 19 = .ok (.iconst 0, 1) := by decide +kernel
theorem d_m_readSet_20 : decode prog_14_method_23_code 20 = .ok (.iastore, 1) := by decide +kernel
theorem d_m_readSet_21 : decode prog_14_method_23_code 21 = .ok (.aload_n 0, 1) := by decide +kernel
theorem d_m_readSet_22 : decode prog_14_method_23_code 22 = .ok (.getfield 79, 3) := by decide +kernel
theorem d_m_readSet_25 : decode prog_14_method_23_code 25 = .ok (.iload_n 1, 1) := by decide +kernel
theorem d_m_readSet_26 : decode prog_14_method_23_code 26 = .ok (.iconst 0, 1) := by decide +kernel
theorem d_m_readSet_27 : decode prog_14_method_23_code 27 = .ok (.iastore, 1) := by decide +kernel
theorem d_m_readSet_28 : decode prog_14_method_23_code 28 = .ok (.aload_n 0, 1) := by decide +kernel
theorem d_m_readSet_29 : decode prog_14_method_23_code 29 = .ok (.bipush 42, 2) := by decide +kernel
theorem d_m_readSet_31 : decode prog_14_method_23_code 31 = .ok (.invokevirtual 151, 3) := by decide +kernel
theorem d_m_readSet_34 : decode prog_14_method_23_code 34 = .ok (.ifCond .eq 17, 3) := by decide +kernel
theorem d_m_readSet_37 : decode prog_14_method_23_code 37 = .ok (.aload_n 0, 1) := by decide +kernel
theorem d_m_readSet_38 : decode prog_14_method_23_code 38 = .ok (.getfield 76, 3) := by decide +kernel
theorem d_m_readSet_41 : decode prog_14_method_23_code 41 = .ok (.iload_n 1, 1) := by decide +kernel
theorem d_m_readSet_42 : decode prog_14_method_23_code 42 = .ok (.dup2, 1) := by decide +kernel
theorem d_m_readSet_43 : decode prog_14_method_23_code 43 = .ok (.iaload, 1) := by decide +kernel
theorem d_m_readSet_44 : decode prog_14_method_23_code 44 = .ok (.ldc 216, 2) := by decide +kernel
theorem d_m_readSet_46 : decode prog_14_method_23_code 46 = .ok (.ior, 1) := by decide +kernel
theorem d_m_readSet_47 : decode prog_14_method_23_code 47 = .ok (.iastore, 1) := by decide +kernel
theorem d_m_readSet_48 : decode prog_14_method_23_code 48 = .ok (.goto 99, 3) := by decide +kernel
theorem d_m_readSet_51 : decode prog_14_method_23_code 51 = .ok (.aload_n 0, 1) := by decide +kernel
theorem d_m_readSet_52 : decode prog_14_method_23_code 52 = .ok (.bipush 123, 2) := by decide +kernel
theorem d_m_readSet_54 : decode prog_14_method_23_code 54 = .ok (.invokevirtual 151, 3) := by decide +kernel
theorem d_m_readSet_57 : decode prog_14_method_23_code 57 = .ok (.ifCond .eq 77, 3) := by decide +kernel
theorem d_m_readSet_60 : decode prog_14_method_23_code 60 = .ok (.iconst 1, 1) := by decide +kernel
theorem d_m_readSet_61 : decode prog_14_method_23_code 61 = .ok (.istore_n 2, 1) := by decide +kernel
theorem d_m_readSet_62 : decode prog_14_method_23_code 62 = .ok (.aload_n 0, 1) := by decide +kernel
theorem d_m_readSet_63 : decode prog_14_method_23_code 63 = .ok (.getfield 109, 3) := by decide +kernel
theorem d_m_readSet_66 : decode prog_14_method_23_code 66 = .ok (.ifCond .ne 59, 3) := by decide +kernel
theorem d_m_readSet_69 : decode prog_14_method_23_code 69 = .ok (.iload_n 2, 1) := by decide +kernel
theorem d_m_readSet_70 : decode prog_14_method_23_code 70 = .ok (.ifCond .ne 12, 3) := by decide +kernel
theorem d_m_readSet_73 : decode prog_14_method_23_code 73 = .ok (.aload_n 0, 1) := by decide +kernel
theorem d_m_readSet_74 : decode prog_14_method_23_code 74 = .ok (.bipush 125, 2) := by decide +kernel
theorem d_m_readSet_76 : decode prog_14_method_23_code 76 = .ok (.invokevirtual 145, 3) := by decide +kernel
theorem d_m_readSet_79 : decode prog_14_method_23_code 79 = .ok (.ifCond .ne 46, 3) := by decide +kernel
theorem d_m_readSet_82 : decode prog_14_method_23_code 82 = .ok (.iconst 0, 1) := by decide +kernel
theorem d_m_readSet_83 : decode prog_14_method_23_code 83 = .ok (.istore_n 2, 1) := by decide +kernel
theorem d_m_readSet_84 : decode prog_14_method_23_code 84 = .ok (.aload_n 0, 1) := by decide +kernel
theorem d_m_readSet_85 : decode prog_14_method_23_code 85 = .ok (.bipush 45, 2) := by decide +kernel
theorem d_m_readSet_87 : decode prog_14_method_23_code 87 = .ok (.invokevirtual 151, 3) := by decide +kernel
theorem d_m_readSet_90 : decode prog_14_method_23_code 90 = .ok (.ifCond .eq 19, 3) := by decide +kernel
theorem d_m_readSet_93 : decode prog_14_method_23_code 93 = .ok (.aload_n 0, 1) := by decide +kernel
theorem d_m_readSet_94 : decode prog_14_method_23_code 94 = .ok (.getfield 79, 3) := by decide +kernel
theorem d_m_readSet_97 : decode prog_14_method_23_code 97 = .ok (.iload_n 1, 1) := by decide +kernel
theorem d_m_readSet_98 : decode prog_14_method_23_code 98 = .ok (.dup2, 1) := by decide +kernel
theorem d_m_readSet_99 : decode prog_14_method_23_code 99 = .ok (.iaload, 1) := by decide +kernel
theorem d_m_readSet_100 : decode prog_14_method_23_code 100 = .ok (.aload_n 0, 1) := by decide +kernel
theorem d_m_readSet_101 : decode prog_14_method_23_code 101 = .ok (.invokevirtual 217, 3) := by decide +kernel
theorem d_m_readSet_104 : decode prog_14_method_23_code 104 = .ok (.ior, 1) := by decide +kernel
theorem d_m_readSet_105 : decode prog_14_method_23_code 105 = .ok (.iastore, 1) := by decide +kernel
theorem d_m_readSet_106 : decode prog_14_method_23_code 106 = .ok (.goto (-44), 3) := by decide +kernel
theorem d_m_readSet_109 : decode prog_14_method_23_code 109 = .ok (.aload_n 0, 1) := by decide +kernel
theorem d_m_readSet_110 : decode prog_14_method_23_code 110 = .ok (.getfield 76, 3) := by decide +kernel
theorem d_m_readSet_113 : decode prog_14_method_23_code 113 = .ok (.iload_n 1, 1) := by decide +kernel
theorem d_m_readSet_114 : decode prog_14_method_23_code 114 = .ok (.dup2, 1) := by decide +kernel
theorem d_m_readSet_115 : decode prog_14_method_23_code 115 = .ok (.iaload, 1) := by decide +kernel
theorem d_m_readSet_116 : decode prog_14_method_23_code 116 = .ok (.aload_n 0, 1) := by decide +kernel
theorem d_m_readSet_117 : decode prog_14_method_23_code 117 = .ok (.invokevirtual 217, 3) := by decide +kernel
theorem d_m_readSet_120 : decode prog_14_method_23_code 120 = .ok (.ior, 1) := by decide +kernel
theorem d_m_readSet_121 : decode prog_14_method_23_code 121 = .ok (.iastore, 1) := by decide +kernel
theorem d_m_readSet_122 : decode prog_14_method_23_code 122 = .ok (.goto (-60), 3) := by decide +kernel
theorem d_m_readSet_125 : decode prog_14_method_23_code 125 = .ok (.aload_n 0, 1) := by decide +kernel
theorem d_m_readSet_126 : decode prog_14_method_23_code 126 = .ok (.bipush 125, 2) := by decide +kernel
theorem d_m_readSet_128 : decode prog_14_method_23_code 128 = .ok (.invokevirtual 212, 3) := by decide +kernel
theorem d_m_readSet_131 : decode prog_14_method_23_code 131 = .ok (.goto 16, 3) := by decide +kernel
theorem d_m_readSet_134 : decode prog_14_method_23_code 134 = .ok (.aload_n 0, 1) := by decide +kernel
theorem d_m_readSet_135 : decode prog_14_method_23_code 135 = .ok (.getfield 76, 3) := by decide +kernel
theorem d_m_readSet_138 : decode prog_14_method_23_code 138 = .ok (.iload_n 1, 1) := by decide +kernel
theorem d_m_readSet_139 : decode prog_14_method_23_code 139 = .ok (.dup2, 1) := by decide +kernel
theorem d_m_readSet_140 : decode prog_14_method_23_code 140 = .ok (.iaload, 1) := by decide +kernel
theorem d_m_readSet_141 : decode prog_14_method_23_code 141 = .ok (.aload_n 0, 1) := by decide +kernel
theorem d_m_readSet_142 : decode prog_14_method_23_code 142 = .ok (.invokevirtual 217, 3) := by decide +kernel
theorem d_m_readSet_145 : decode prog_14_method_23_code 145 = .ok (.ior, 1) := by decide +kernel
theorem d_m_readSet_146 : decode prog_14_method_23_code 146 = .ok (.iastore, 1) := by decide +kernel
theorem d_m_readSet_147 : decode prog_14_method_23_code 147 = .ok (.return_, 1) := by decide +kernel
def m_readSet_J82 (kO62 : Bool → MS → Option MS) (v1_82 : Int32) (S_82 : MS) : Option MS := ((m_passes 45 S_82).bind fun q87 => (if q87.2 = true then (if inbd v1_82 96 = true then ((m_readItem q87.1).bind fun q101 => (if inbd v1_82 96 = true then (bd (pI q101.1 22 (txN v1_82) ((gI q87.1 22 (txN v1_82)) ||| q101.2)) fun S105 => kO62 false S105) else none)) else none) else (if inbd v1_82 96 = true then ((m_readItem q87.1).bind fun q117 => (if inbd v1_82 96 = true then (bd (pI q117.1 21 (txN v1_82) ((gI q87.1 21 (txN v1_82)) ||| q117.2)) fun S121 => kO62 false S121) else none)) else none)))
def m_readSet_J125 (S_125 : MS) : Option MS := ((m_must 125 S_125).bind fun q128 => some q128)
def m_readSet_L62 (v1_62 : Int32) : Nat → Bool → MS → Option MS
  | 0, _, _ => none
  | n + 1, v2_62, S_62 => (if (gI S_62 0 7) = 0 then (if v2_62 = true then m_readSet_J82 (m_readSet_L62 v1_62 n) v1_62 S_62 else ((m_is 125 S_62).bind fun q76 => (if q76 = true then m_readSet_J125 S_62 else m_readSet_J82 (m_readSet_L62 v1_62 n) v1_62 S_62))) else m_readSet_J125 S_62)
def m_readSet_J20 (v1_20 : Int32) (s0_20 : Int32) (s1_20 : Int32) (S_20 : MS) : Option MS := (if inbd s1_20 96 = true then (bd (pI S_20 21 (txN s1_20) s0_20) fun S20 => (if inbd v1_20 96 = true then (bd (pI S20 22 (txN v1_20) 0) fun S27 => ((m_passes 42 S27).bind fun q31 => (if q31.2 = true then (if inbd v1_20 96 = true then (if inbd v1_20 96 = true then (bd (pI q31.1 21 (txN v1_20) ((gI q31.1 21 (txN v1_20)) ||| 131072)) fun S47 => some S47) else none) else none) else ((m_passes 123 q31.1).bind fun q54 => (if q54.2 = true then m_readSet_L62 v1_20 600 true q54.1 else (if inbd v1_20 96 = true then ((m_readItem q54.1).bind fun q142 => (if inbd v1_20 96 = true then (bd (pI q142.1 21 (txN v1_20) ((gI q54.1 21 (txN v1_20)) ||| q142.2)) fun S146 => some S146) else none)) else none)))))) else none)) else none)
def m_readSet (x1 : Int32) (S : MS) : Option MS := ((m_passes 126 S).bind fun q8 => (if q8.2 = true then m_readSet_J20 x1 65536 x1 q8.1 else m_readSet_J20 x1 0 x1 q8.1))
set_option maxHeartbeats 4000000 in
set_option maxRecDepth 100000 in
theorem M_m_readSet {l : Launch} {D : va_G} {cA : Nat → ClassId} {b : Nat} {ad : Nat → Nat} {x1 : Int32} {S : MS} {T : CS} {o : Nat → Int64} {rr : MS}  (h : m_readSet x1 S = some rr) : Met l y_m_readSet (Cond.code y_m_readSet prog_14_method_23_code 3 (Option.none : Option Jvm.ClassFile.FieldType) :: TW) { frames := 5, cells := 0, slots := 0, locals := 105 } (va_Pc [.ref (b + 262), .int x1] (Rp D cA b ad (T, S, o))) (Qr D cA b ad (T, rr, o) none) 0 0 (Ab b) := by
  refine Ct_of (by decide) (Nat.le_of_ble_eq_true rfl) ?_
  intro p e R s m args below meth c ls Q H locs hR hQ hx hb hts hown hml hr hlk hC hX hS hl
  have hRf : R.frames = 5 := by rw [hR]
  have hRl : R.locals = 105 := by rw [hR]
  have hown : s.vm.findClass "TypeGuardModel" = some m.cls := hown
  have hl : lv_has ls 3 [(0, .ref (b + 262)), (1, .int x1)] := hl
  rw [m_readSet] at h
  refine lv_aload_n hx hb d_m_readSet_0 rfl (lv_at hl 0 rfl) ?_
  refine m_get_0_32 hx hb hts hown hC hX (by rfl) (hts _ t_1019) d_m_readSet_1 ?_
  refine lv_iload_n hx hb d_m_readSet_4 rfl (lv_at hl 1 rfl) ?_
  refine lv_aload_n hx hb d_m_readSet_5 rfl (lv_at hl 0 rfl) ?_
  refine lv_bipush (v := 126) hx hb d_m_readSet_6 (by decide) ?_
  obtain ⟨q8, hc8, h⟩ := Option.bind_eq_some_iff.mp h
  refine ck_V (As := [.int 126]) (rest := [.int x1, .ref (b + 283)]) (st1 := [.int (bI q8.2), .int x1, .ref (b + 283)]) (M_m_passes  hc8) t_1188 t_1190 p_44 t_1191 t_13 hx hb hts hown hC hX hS (hrc_m0 hC hX (by rfl)) hml hl.1 ⟨by rw [hRf]; decide, by rw [hRl]; decide⟩ ⟨rfl, rfl⟩ (n := 1) (by decide +kernel) rfl rfl rfl (lv_room (Nat.le_of_ble_eq_true rfl)) d_m_readSet_8 (fun H locs hX hS => ?_)
  have J20 : ∀ (s0_20 : Int32) (H : Heap) (locs : List Loc) (ls : Array Slot), hp D cA b ad (T, q8.1, o) H → va_S (Ab b) s.heap H locs → lv_has ls 3 [(0, .ref (b + 262)), (1, .int x1)] → m_readSet_J20 x1 s0_20 x1 q8.1 = some rr → W p l e R s m args below meth c H locs 0 0 Q (F0 m 20 ls [.int s0_20, .int x1, .ref (b + 283)]) := by
    intro s0_20 H locs ls  hX hS hl h
    rw [m_readSet_J20] at h
    by_cases hg20 : inbd x1 96 = true
    rotate_left; · rw [if_neg hg20] at h; cases h
    rw [if_pos hg20] at h
    refine m_ast_1 (k := 21) (v := s0_20) hx hb hC hX hS (by rfl) hg20 d_m_readSet_20 (fun H locs hX hS => ?_)
    obtain ⟨S20, e20, h⟩ := bd_some h
    rw [← e20] at hX
    refine lv_aload_n hx hb d_m_readSet_21 rfl (lv_at hl 0 rfl) ?_
    refine m_get_0_33 hx hb hts hown hC hX (by rfl) (hts _ t_1020) d_m_readSet_22 ?_
    refine lv_iload_n hx hb d_m_readSet_25 rfl (lv_at hl 1 rfl) ?_
    refine lv_iconst (v := 0) hx hb d_m_readSet_26 (by decide) ?_
    by_cases hg27 : inbd x1 96 = true
    rotate_left; · rw [if_neg hg27] at h; cases h
    rw [if_pos hg27] at h
    refine m_ast_1 (k := 22) (v := 0) hx hb hC hX hS (by rfl) hg27 d_m_readSet_27 (fun H locs hX hS => ?_)
    obtain ⟨S27, e27, h⟩ := bd_some h
    rw [← e27] at hX
    refine lv_aload_n hx hb d_m_readSet_28 rfl (lv_at hl 0 rfl) ?_
    refine lv_bipush (v := 42) hx hb d_m_readSet_29 (by decide) ?_
    obtain ⟨q31, hc31, h⟩ := Option.bind_eq_some_iff.mp h
    refine ck_V (As := [.int 42]) (rest := []) (st1 := [.int (bI q31.2)]) (M_m_passes  hc31) t_1188 t_1190 p_44 t_1191 t_13 hx hb hts hown hC hX hS (hrc_m0 hC hX (by rfl)) hml hl.1 ⟨by rw [hRf]; decide, by rw [hRl]; decide⟩ ⟨rfl, rfl⟩ (n := 1) (by decide +kernel) rfl rfl rfl (lv_room (Nat.le_of_ble_eq_true rfl)) d_m_readSet_31 (fun H locs hX hS => ?_)
    refine lz_ifeq hx hb d_m_readSet_34 (tgt := 51) (by decide) (fun hc => ?_) (fun hc => ?_)
    · rw [if_neg hc] at h
      refine lv_aload_n hx hb d_m_readSet_51 rfl (lv_at hl 0 rfl) ?_
      refine lv_bipush (v := 123) hx hb d_m_readSet_52 (by decide) ?_
      obtain ⟨q54, hc54, h⟩ := Option.bind_eq_some_iff.mp h
      refine ck_V (As := [.int 123]) (rest := []) (st1 := [.int (bI q54.2)]) (M_m_passes  hc54) t_1188 t_1190 p_44 t_1191 t_13 hx hb hts hown hC hX hS (hrc_m0 hC hX (by rfl)) hml hl.1 ⟨by rw [hRf]; decide, by rw [hRl]; decide⟩ ⟨rfl, rfl⟩ (n := 1) (by decide +kernel) rfl rfl rfl (lv_room (Nat.le_of_ble_eq_true rfl)) d_m_readSet_54 (fun H locs hX hS => ?_)
      refine lz_ifeq hx hb d_m_readSet_57 (tgt := 134) (by decide) (fun hc => ?_) (fun hc => ?_)
      · rw [if_neg hc] at h
        refine lv_aload_n hx hb d_m_readSet_134 rfl (lv_at hl 0 rfl) ?_
        refine m_get_0_32 hx hb hts hown hC hX (by rfl) (hts _ t_1019) d_m_readSet_135 ?_
        refine lv_iload_n hx hb d_m_readSet_138 rfl (lv_at hl 1 rfl) ?_
        refine lv_dup2_11 hx hb d_m_readSet_139 rfl rfl ?_
        by_cases hg140 : inbd x1 96 = true
        rotate_left; · rw [if_neg hg140] at h; cases h
        rw [if_pos hg140] at h
        refine m_ald_1 (k := 21) hx hb hC hX (by rfl) hg140 d_m_readSet_140 ?_
        refine lv_aload_n hx hb d_m_readSet_141 rfl (lv_at hl 0 rfl) ?_
        obtain ⟨q142, hc142, h⟩ := Option.bind_eq_some_iff.mp h
        refine ck_V (As := []) (rest := [.int (gI q54.1 21 (txN x1)), .int x1, .ref (b + 283)]) (st1 := [.int q142.2, .int (gI q54.1 21 (txN x1)), .int x1, .ref (b + 283)]) (M_m_readItem  hc142) t_1198 t_1200 p_46 t_1201 t_13 hx hb hts hown hC hX hS (hrc_m0 hC hX (by rfl)) hml hl.1 ⟨by rw [hRf]; decide, by rw [hRl]; decide⟩ ⟨rfl, rfl⟩ (n := 0) (by decide +kernel) rfl rfl rfl (lv_room (Nat.le_of_ble_eq_true rfl)) d_m_readSet_142 (fun H locs hX hS => ?_)
        refine lv_ior hx hb d_m_readSet_145 ?_
        by_cases hg146 : inbd x1 96 = true
        rotate_left; · rw [if_neg hg146] at h; cases h
        rw [if_pos hg146] at h
        refine m_ast_1 (k := 21) (v := ((gI q54.1 21 (txN x1)) ||| q142.2)) hx hb hC hX hS (by rfl) hg146 d_m_readSet_146 (fun H locs hX hS => ?_)
        obtain ⟨S146, e146, h⟩ := bd_some h
        rw [← e146] at hX
        obtain rfl := Option.some.inj h
        exact rt_v hQ hx hb hr hX hS hlk d_m_readSet_147
      · rw [if_pos hc] at h
        refine lv_iconst (v := 1) hx hb d_m_readSet_60 (by decide) ?_
        refine lv_istore_n (lv' := [(2, .int (bI true)), (0, .ref (b + 262)), (1, .int x1)]) hx hb d_m_readSet_61 rfl hl (by decide) rfl (fun ls hl => ?_)
        have L62 : ∀ (n62 : Nat) (v2_62 : Bool) (S_62 : MS) (H : Heap) (locs : List Loc) (ls : Array Slot), hp D cA b ad (T, S_62, o) H → va_S (Ab b) s.heap H locs → lv_has ls 3 [(0, .ref (b + 262)), (1, .int x1), (2, .int (bI v2_62))] → m_readSet_L62 x1 n62 v2_62 S_62 = some rr → W p l e R s m args below meth c H locs 0 0 Q (F0 m 62 ls []) := by
          intro n62; induction n62 with
          | zero => intro v2_62 S_62 H locs ls  hX hS hl h; rw [m_readSet_L62] at h; cases h
          | succ n62 ih62 =>
            intro v2_62 S_62 H locs ls  hX hS hl h
            rw [m_readSet_L62] at h
            refine lv_aload_n hx hb d_m_readSet_62 rfl (lv_at hl 0 rfl) ?_
            refine m_get_0_7 hx hb hts hown hC hX (by rfl) (hts _ t_994) d_m_readSet_63 ?_
            have J125 : ∀  (H : Heap) (locs : List Loc) (ls : Array Slot), hp D cA b ad (T, S_62, o) H → va_S (Ab b) s.heap H locs → lv_has ls 3 [(0, .ref (b + 262))] → m_readSet_J125 S_62 = some rr → W p l e R s m args below meth c H locs 0 0 Q (F0 m 125 ls []) := by
              intro  H locs ls  hX hS hl h
              rw [m_readSet_J125] at h
              refine lv_aload_n hx hb d_m_readSet_125 rfl (lv_at hl 0 rfl) ?_
              refine lv_bipush (v := 125) hx hb d_m_readSet_126 (by decide) ?_
              obtain ⟨q128, hc128, h⟩ := Option.bind_eq_some_iff.mp h
              refine ck_V (As := [.int 125]) (rest := []) (st1 := []) (M_m_must  hc128) t_1213 t_1215 p_49 t_1216 t_13 hx hb hts hown hC hX hS (hrc_m0 hC hX (by rfl)) hml hl.1 ⟨by rw [hRf]; decide, by rw [hRl]; decide⟩ ⟨rfl, rfl⟩ (n := 1) (by decide +kernel) rfl rfl rfl (lv_room (Nat.le_of_ble_eq_true rfl)) d_m_readSet_128 (fun H locs hX hS => ?_)
              refine lv_goto hx hb d_m_readSet_131 (tgt := 147) (by decide) ?_
              obtain rfl := Option.some.inj h
              exact rt_v hQ hx hb hr hX hS hlk d_m_readSet_147
            refine lv_if_ne hx hb d_m_readSet_66 (tgt := 125) (by decide) (fun hc => ?_) (fun hc => ?_)
            · rw [if_neg hc] at h
              exact J125  H locs ls  hX hS (lv_sub hl [0] rfl) h
            · rw [if_pos hc] at h
              refine lv_iload_n hx hb d_m_readSet_69 rfl (lv_at hl 2 rfl) ?_
              have J82 : ∀  (H : Heap) (locs : List Loc) (ls : Array Slot), hp D cA b ad (T, S_62, o) H → va_S (Ab b) s.heap H locs → lv_has ls 3 [(0, .ref (b + 262)), (1, .int x1)] → m_readSet_J82 (m_readSet_L62 x1 n62) x1 S_62 = some rr → W p l e R s m args below meth c H locs 0 0 Q (F0 m 82 ls []) := by
                intro  H locs ls  hX hS hl h
                rw [m_readSet_J82] at h
                refine lv_iconst (v := 0) hx hb d_m_readSet_82 (by decide) ?_
                refine lv_istore_n (lv' := [(2, .int (bI false)), (0, .ref (b + 262)), (1, .int x1)]) hx hb d_m_readSet_83 rfl hl (by decide) rfl (fun ls hl => ?_)
                refine lv_aload_n hx hb d_m_readSet_84 rfl (lv_at hl 1 rfl) ?_
                refine lv_bipush (v := 45) hx hb d_m_readSet_85 (by decide) ?_
                obtain ⟨q87, hc87, h⟩ := Option.bind_eq_some_iff.mp h
                refine ck_V (As := [.int 45]) (rest := []) (st1 := [.int (bI q87.2)]) (M_m_passes  hc87) t_1188 t_1190 p_44 t_1191 t_13 hx hb hts hown hC hX hS (hrc_m0 hC hX (by rfl)) hml hl.1 ⟨by rw [hRf]; decide, by rw [hRl]; decide⟩ ⟨rfl, rfl⟩ (n := 1) (by decide +kernel) rfl rfl rfl (lv_room (Nat.le_of_ble_eq_true rfl)) d_m_readSet_87 (fun H locs hX hS => ?_)
                refine lz_ifeq hx hb d_m_readSet_90 (tgt := 109) (by decide) (fun hc => ?_) (fun hc => ?_)
                · rw [if_neg hc] at h
                  refine lv_aload_n hx hb d_m_readSet_109 rfl (lv_at hl 1 rfl) ?_
                  refine m_get_0_32 hx hb hts hown hC hX (by rfl) (hts _ t_1019) d_m_readSet_110 ?_
                  refine lv_iload_n hx hb d_m_readSet_113 rfl (lv_at hl 2 rfl) ?_
                  refine lv_dup2_11 hx hb d_m_readSet_114 rfl rfl ?_
                  by_cases hg115 : inbd x1 96 = true
                  rotate_left; · rw [if_neg hg115] at h; cases h
                  rw [if_pos hg115] at h
                  refine m_ald_1 (k := 21) hx hb hC hX (by rfl) hg115 d_m_readSet_115 ?_
                  refine lv_aload_n hx hb d_m_readSet_116 rfl (lv_at hl 1 rfl) ?_
                  obtain ⟨q117, hc117, h⟩ := Option.bind_eq_some_iff.mp h
                  refine ck_V (As := []) (rest := [.int (gI q87.1 21 (txN x1)), .int x1, .ref (b + 283)]) (st1 := [.int q117.2, .int (gI q87.1 21 (txN x1)), .int x1, .ref (b + 283)]) (M_m_readItem  hc117) t_1198 t_1200 p_46 t_1201 t_13 hx hb hts hown hC hX hS (hrc_m0 hC hX (by rfl)) hml hl.1 ⟨by rw [hRf]; decide, by rw [hRl]; decide⟩ ⟨rfl, rfl⟩ (n := 0) (by decide +kernel) rfl rfl rfl (lv_room (Nat.le_of_ble_eq_true rfl)) d_m_readSet_117 (fun H locs hX hS => ?_)
                  refine lv_ior hx hb d_m_readSet_120 ?_
                  by_cases hg121 : inbd x1 96 = true
                  rotate_left; · rw [if_neg hg121] at h; cases h
                  rw [if_pos hg121] at h
                  refine m_ast_1 (k := 21) (v := ((gI q87.1 21 (txN x1)) ||| q117.2)) hx hb hC hX hS (by rfl) hg121 d_m_readSet_121 (fun H locs hX hS => ?_)
                  obtain ⟨S121, e121, h⟩ := bd_some h
                  rw [← e121] at hX
                  refine lv_goto hx hb d_m_readSet_122 (tgt := 62) (by decide) ?_
                  exact ih62 false S121 H locs ls  hX hS (lv_sub hl [1, 2, 0] rfl) h
                · rw [if_pos hc] at h
                  refine lv_aload_n hx hb d_m_readSet_93 rfl (lv_at hl 1 rfl) ?_
                  refine m_get_0_33 hx hb hts hown hC hX (by rfl) (hts _ t_1020) d_m_readSet_94 ?_
                  refine lv_iload_n hx hb d_m_readSet_97 rfl (lv_at hl 2 rfl) ?_
                  refine lv_dup2_11 hx hb d_m_readSet_98 rfl rfl ?_
                  by_cases hg99 : inbd x1 96 = true
                  rotate_left; · rw [if_neg hg99] at h; cases h
                  rw [if_pos hg99] at h
                  refine m_ald_1 (k := 22) hx hb hC hX (by rfl) hg99 d_m_readSet_99 ?_
                  refine lv_aload_n hx hb d_m_readSet_100 rfl (lv_at hl 1 rfl) ?_
                  obtain ⟨q101, hc101, h⟩ := Option.bind_eq_some_iff.mp h
                  refine ck_V (As := []) (rest := [.int (gI q87.1 22 (txN x1)), .int x1, .ref (b + 284)]) (st1 := [.int q101.2, .int (gI q87.1 22 (txN x1)), .int x1, .ref (b + 284)]) (M_m_readItem  hc101) t_1198 t_1200 p_46 t_1201 t_13 hx hb hts hown hC hX hS (hrc_m0 hC hX (by rfl)) hml hl.1 ⟨by rw [hRf]; decide, by rw [hRl]; decide⟩ ⟨rfl, rfl⟩ (n := 0) (by decide +kernel) rfl rfl rfl (lv_room (Nat.le_of_ble_eq_true rfl)) d_m_readSet_101 (fun H locs hX hS => ?_)
                  refine lv_ior hx hb d_m_readSet_104 ?_
                  by_cases hg105 : inbd x1 96 = true
                  rotate_left; · rw [if_neg hg105] at h; cases h
                  rw [if_pos hg105] at h
                  refine m_ast_1 (k := 22) (v := ((gI q87.1 22 (txN x1)) ||| q101.2)) hx hb hC hX hS (by rfl) hg105 d_m_readSet_105 (fun H locs hX hS => ?_)
                  obtain ⟨S105, e105, h⟩ := bd_some h
                  rw [← e105] at hX
                  refine lv_goto hx hb d_m_readSet_106 (tgt := 62) (by decide) ?_
                  exact ih62 false S105 H locs ls  hX hS (lv_sub hl [1, 2, 0] rfl) h
              refine lz_ifne hx hb d_m_readSet_70 (tgt := 82) (by decide) (fun hc => ?_) (fun hc => ?_)
              · rw [if_pos hc] at h
                exact J82  H locs ls  hX hS (lv_sub hl [0, 1] rfl) h
              · rw [if_neg hc] at h
                refine lv_aload_n hx hb d_m_readSet_73 rfl (lv_at hl 0 rfl) ?_
                refine lv_bipush (v := 125) hx hb d_m_readSet_74 (by decide) ?_
                obtain ⟨q76, hc76, h⟩ := Option.bind_eq_some_iff.mp h
                refine ck_V (As := [.int 125]) (rest := []) (st1 := [.int (bI q76)]) (M_m_is  hc76) t_1192 t_1194 p_45 t_1195 t_13 hx hb hts hown hC hX hS (hrc_m0 hC hX (by rfl)) hml hl.1 ⟨by rw [hRf]; decide, by rw [hRl]; decide⟩ ⟨rfl, rfl⟩ (n := 1) (by decide +kernel) rfl rfl rfl (lv_room (Nat.le_of_ble_eq_true rfl)) d_m_readSet_76 (fun H locs hX hS => ?_)
                refine lz_ifne hx hb d_m_readSet_79 (tgt := 125) (by decide) (fun hc => ?_) (fun hc => ?_)
                · rw [if_pos hc] at h
                  exact J125  H locs ls  hX hS (lv_sub hl [0] rfl) h
                · rw [if_neg hc] at h
                  exact J82  H locs ls  hX hS (lv_sub hl [0, 1] rfl) h
        exact L62 600 true q54.1 H locs ls  hX hS (lv_sub hl [1, 2, 0] rfl) h
    · rw [if_pos hc] at h
      refine lv_aload_n hx hb d_m_readSet_37 rfl (lv_at hl 0 rfl) ?_
      refine m_get_0_32 hx hb hts hown hC hX (by rfl) (hts _ t_1019) d_m_readSet_38 ?_
      refine lv_iload_n hx hb d_m_readSet_41 rfl (lv_at hl 1 rfl) ?_
      refine lv_dup2_11 hx hb d_m_readSet_42 rfl rfl ?_
      by_cases hg43 : inbd x1 96 = true
      rotate_left; · rw [if_neg hg43] at h; cases h
      rw [if_pos hg43] at h
      refine m_ald_1 (k := 21) hx hb hC hX (by rfl) hg43 d_m_readSet_43 ?_
      refine lv_ldc (v := 131072) hx hb hown (hts _ t_1197) d_m_readSet_44 ?_
      refine lv_ior hx hb d_m_readSet_46 ?_
      by_cases hg47 : inbd x1 96 = true
      rotate_left; · rw [if_neg hg47] at h; cases h
      rw [if_pos hg47] at h
      refine m_ast_1 (k := 21) (v := ((gI q31.1 21 (txN x1)) ||| 131072)) hx hb hC hX hS (by rfl) hg47 d_m_readSet_47 (fun H locs hX hS => ?_)
      obtain ⟨S47, e47, h⟩ := bd_some h
      rw [← e47] at hX
      refine lv_goto hx hb d_m_readSet_48 (tgt := 147) (by decide) ?_
      obtain rfl := Option.some.inj h
      exact rt_v hQ hx hb hr hX hS hlk d_m_readSet_147
  refine lz_ifeq hx hb d_m_readSet_11 (tgt := 19) (by decide) (fun hc => ?_) (fun hc => ?_)
  · rw [if_neg hc] at h
    refine lv_iconst (v := 0) hx hb d_m_readSet_19 (by decide) ?_
    exact J20 0 H locs ls  hX hS (lv_sub hl [0, 1] rfl) h
  · rw [if_pos hc] at h
    refine lv_ldc (v := 65536) hx hb hown (hts _ t_1196) d_m_readSet_14 ?_
    refine lv_goto hx hb d_m_readSet_16 (tgt := 20) (by decide) ?_
    exact J20 65536 H locs ls  hX hS (lv_sub hl [0, 1] rfl) h
abbrev y_m_readClassName : MethodName := ({ cls := "TypeGuardModel", name := "readClassName", desc := "()I" } : Jvm.MethodName)
theorem d_m_readClassName_0 : decode prog_14_method_24_code 0 = .ok (.aload_n 0, 1) := by decide +kernel
theorem d_m_readClassName_1 : decode prog_14_method_24_code 1 = .ok (.invokevirtual 193, 3) := by decide +kernel
theorem d_m_readClassName_4 : decode prog_14_method_24_code 4 = .ok (.ifCond .ne 5, 3) := by decide +kernel
theorem d_m_readClassName_7 : decode prog_14_method_24_code 7 = .ok (.iconst 0, 1) := by decide +kernel
theorem d_m_readClassName_8 : decode prog_14_method_24_code 8 = .ok (.ireturn, 1) := by decide +kernel
theorem d_m_readClassName_9 : decode prog_14_method_24_code 9 = .ok (.aload_n 0, 1) := by decide +kernel
theorem d_m_readClassName_10 : decode prog_14_method_24_code 10 = .ok (.aload_n 0, 1) := by decide +kernel
theorem d_m_readClassName_11 : decode prog_14_method_24_code 11 = .ok (.invokevirtual 189, 3) := by decide +kernel
theorem d_m_readClassName_14 : decode prog_14_method_24_code 14 = .ok (.aload_n 0, 1) := by decide +kernel
theorem d_m_readClassName_15 : decode prog_14_method_24_code 15 = .ok (.getfield 134, 3) := by decide +kernel
theorem d_m_readClassName_18 : decode prog_14_method_24_code 18 = .ok (.invokevirtual 205, 3) := by decide +kernel
theorem d_m_readClassName_21 : decode prog_14_method_24_code 21 = .ok (.istore_n 1, 1) := by decide +kernel
theorem d_m_readClassName_22 : decode prog_14_method_24_code 22 = .ok (.iload_n 1, 1) := by decide +kernel
theorem d_m_readClassName_23 : decode prog_14_method_24_code 23 = .ok (.ifCond .ge 8, 3) := by decide +kernel
theorem d_m_readClassName_26 : decode prog_14_method_24_code 26 = .ok (.aload_n 0, 1) := by decide +kernel
theorem d_m_readClassName_27 : decode prog_14_method_24_code 27 = .ok (.iconst 2, 1) := by decide +kernel
theorem d_m_readClassName_28 : decode prog_14_method_24_code 28 = .ok (.invokevirtual 141, 3) := by decide +kernel
theorem d_m_readClassName_31 : decode prog_14_method_24_code 31 = .ok (.aload_n 0, 1) := by decide +kernel
theorem d_m_readClassName_32 : decode prog_14_method_24_code 32 = .ok (.invokevirtual 148, 3) := by decide +kernel
theorem d_m_readClassName_35 : decode prog_14_method_24_code 35 = .ok (.aload_n 0, 1) := by decide +kernel
theorem d_m_readClassName_36 : decode prog_14_method_24_code 36 = .ok (.getfield 109, 3) := by decide +kernel
theorem d_m_readClassName_39 : decode prog_14_method_24_code 39 = .ok (.ifCond .eq 7, 3) := by decide +kernel
theorem d_m_readClassName_42 : decode prog_14_method_24_code 42 = .ok (.iconst 0, 1) := by decide +kernel
theorem d_m_readClassName_43 : decode prog_14_method_24_code 43 = .ok (.goto 6, 3) := by decide +kernel
theorem d_m_readClassName_46 : decode prog_14_method_24_code 46 = .ok (.iconst 1, 1) := by decide +kernel
theorem d_m_readClassName_47 : decode prog_14_method_24_code 47 = .ok (.iload_n 1, 1) := by decide +kernel
theorem d_m_readClassName_48 : decode prog_14_method_24_code 48 = .ok (.ishl, 1) := by decide +kernel
theorem d_m_readClassName_49 : decode prog_14_method_24_code 49 = .ok (.ireturn, 1) := by decide +kernel
def m_readClassName_J31 (v1_31 : Int32) (S_31 : MS) : Option (MS × Int32) := ((m_next S_31).bind fun q32 => (if (gI q32 0 7) = 0 then some (q32, (1 <<< (v1_31 &&& 31))) else some (q32, 0)))
def m_readClassName (S : MS) : Option (MS × Int32) := ((m_isName S).bind fun q1 => (if q1.2 = true then ((m_own q1.1).bind fun q11 => ((m_classOf q11 (gL q1.1 0 11) q1.1).bind fun q18 => (if 0 ≤ q18 then m_readClassName_J31 q18 q1.1 else ((m_fail 2 q1.1).bind fun q28 => m_readClassName_J31 q18 q28)))) else some (q1.1, 0)))
set_option maxHeartbeats 4000000 in
set_option maxRecDepth 100000 in
theorem M_m_readClassName {l : Launch} {D : va_G} {cA : Nat → ClassId} {b : Nat} {ad : Nat → Nat}  {S : MS} {T : CS} {o : Nat → Int64} {rr : (MS × Int32)}  (h : m_readClassName  S = some rr) : Met l y_m_readClassName (Cond.code y_m_readClassName prog_14_method_24_code 2 (Option.some Jvm.ClassFile.FieldType.int) :: TW) { frames := 3, cells := 0, slots := 0, locals := 62 } (va_Pc [.ref (b + 262)] (Rp D cA b ad (T, S, o))) (Qr D cA b ad (T, rr.1, o) (some (.int rr.2))) 0 0 (Ab b) := by
  refine Ct_of (by decide) (Nat.le_of_ble_eq_true rfl) ?_
  intro p e R s m args below meth c ls Q H locs hR hQ hx hb hts hown hml hr hlk hC hX hS hl
  have hRf : R.frames = 3 := by rw [hR]
  have hRl : R.locals = 62 := by rw [hR]
  have hown : s.vm.findClass "TypeGuardModel" = some m.cls := hown
  have hl : lv_has ls 2 [(0, .ref (b + 262))] := hl
  rw [m_readClassName] at h
  refine lv_aload_n hx hb d_m_readClassName_0 rfl (lv_at hl 0 rfl) ?_
  obtain ⟨q1, hc1, h⟩ := Option.bind_eq_some_iff.mp h
  refine ck_V (As := []) (rest := []) (st1 := [.int (bI q1.2)]) (M_m_isName  hc1) t_1202 t_1204 p_47 t_1205 t_13 hx hb hts hown hC hX hS (hrc_m0 hC hX (by rfl)) hml hl.1 ⟨by rw [hRf]; decide, by rw [hRl]; decide⟩ ⟨rfl, rfl⟩ (n := 0) (by decide +kernel) rfl rfl rfl (lv_room (Nat.le_of_ble_eq_true rfl)) d_m_readClassName_1 (fun H locs hX hS => ?_)
  refine lz_ifne hx hb d_m_readClassName_4 (tgt := 9) (by decide) (fun hc => ?_) (fun hc => ?_)
  · rw [if_pos hc] at h
    refine lv_aload_n hx hb d_m_readClassName_9 rfl (lv_at hl 0 rfl) ?_
    refine lv_aload_n hx hb d_m_readClassName_10 rfl (lv_at hl 0 rfl) ?_
    obtain ⟨q11, hc11, h⟩ := Option.bind_eq_some_iff.mp h
    refine ck_V (As := []) (rest := [.ref (b + 262)]) (st1 := [.int q11, .ref (b + 262)]) (M_m_own  hc11) t_1145 t_1147 p_38 t_1148 t_13 hx hb hts hown hC hX hS (hrc_m0 hC hX (by rfl)) hml hl.1 ⟨by rw [hRf]; decide, by rw [hRl]; decide⟩ ⟨rfl, rfl⟩ (n := 0) (by decide +kernel) rfl rfl rfl (lv_room (Nat.le_of_ble_eq_true rfl)) d_m_readClassName_11 (fun H locs hX hS => ?_)
    refine lv_aload_n hx hb d_m_readClassName_14 rfl (lv_at hl 0 rfl) ?_
    refine m_get_0_11 hx hb hts hown hC hX (by rfl) (hts _ t_998) d_m_readClassName_15 ?_
    obtain ⟨q18, hc18, h⟩ := Option.bind_eq_some_iff.mp h
    refine ck_V (As := [.int q11, .long (gL q1.1 0 11)]) (rest := []) (st1 := [.int q18]) (M_m_classOf  hc18) t_1222 t_1224 p_51 t_1225 t_13 hx hb hts hown hC hX hS (hrc_m0 hC hX (by rfl)) hml hl.1 ⟨by rw [hRf]; decide, by rw [hRl]; decide⟩ ⟨rfl, rfl⟩ (n := 2) (by decide +kernel) rfl rfl rfl (lv_room (Nat.le_of_ble_eq_true rfl)) d_m_readClassName_18 (fun H locs hX hS => ?_)
    refine lv_istore_n (lv' := [(1, .int q18), (0, .ref (b + 262))]) hx hb d_m_readClassName_21 rfl hl (by decide) rfl (fun ls hl => ?_)
    refine lv_iload_n hx hb d_m_readClassName_22 rfl (lv_at hl 0 rfl) ?_
    have J31 : ∀ (S_31 : MS) (H : Heap) (locs : List Loc) (ls : Array Slot), hp D cA b ad (T, S_31, o) H → va_S (Ab b) s.heap H locs → lv_has ls 2 [(0, .ref (b + 262)), (1, .int q18)] → m_readClassName_J31 q18 S_31 = some rr → W p l e R s m args below meth c H locs 0 0 Q (F0 m 31 ls []) := by
      intro S_31 H locs ls  hX hS hl h
      rw [m_readClassName_J31] at h
      refine lv_aload_n hx hb d_m_readClassName_31 rfl (lv_at hl 0 rfl) ?_
      obtain ⟨q32, hc32, h⟩ := Option.bind_eq_some_iff.mp h
      refine ck_V (As := []) (rest := []) (st1 := []) (M_m_next  hc32) t_1149 t_1151 p_39 t_1152 t_13 hx hb hts hown hC hX hS (hrc_m0 hC hX (by rfl)) hml hl.1 ⟨by rw [hRf]; decide, by rw [hRl]; decide⟩ ⟨rfl, rfl⟩ (n := 0) (by decide +kernel) rfl rfl rfl (lv_room (Nat.le_of_ble_eq_true rfl)) d_m_readClassName_32 (fun H locs hX hS => ?_)
      refine lv_aload_n hx hb d_m_readClassName_35 rfl (lv_at hl 0 rfl) ?_
      refine m_get_0_7 hx hb hts hown hC hX (by rfl) (hts _ t_994) d_m_readClassName_36 ?_
      refine lv_if_eq hx hb d_m_readClassName_39 (tgt := 46) (by decide) (fun hc => ?_) (fun hc => ?_)
      · rw [if_pos hc] at h
        refine lv_iconst (v := 1) hx hb d_m_readClassName_46 (by decide) ?_
        refine lv_iload_n hx hb d_m_readClassName_47 rfl (lv_at hl 1 rfl) ?_
        refine lv_ishl hx hb d_m_readClassName_48 ?_
        obtain rfl := Option.some.inj h
        exact rt_i hQ hx hb hr hX hS hlk d_m_readClassName_49
      · rw [if_neg hc] at h
        refine lv_iconst (v := 0) hx hb d_m_readClassName_42 (by decide) ?_
        refine lv_goto hx hb d_m_readClassName_43 (tgt := 49) (by decide) ?_
        obtain rfl := Option.some.inj h
        exact rt_i hQ hx hb hr hX hS hlk d_m_readClassName_49
    refine lv_if_ge hx hb d_m_readClassName_23 (tgt := 31) (by decide) (fun hc => ?_) (fun hc => ?_)
    · rw [if_pos hc] at h
      exact J31 q1.1 H locs ls  hX hS (lv_sub hl [1, 0] rfl) h
    · rw [if_neg hc] at h
      refine lv_aload_n hx hb d_m_readClassName_26 rfl (lv_at hl 1 rfl) ?_
      refine lv_iconst (v := 2) hx hb d_m_readClassName_27 (by decide) ?_
      obtain ⟨q28, hc28, h⟩ := Option.bind_eq_some_iff.mp h
      refine ck_V (As := [.int 2]) (rest := []) (st1 := []) (M_m_fail  hc28) t_1159 t_1161 p_40 t_1162 t_13 hx hb hts hown hC hX hS (hrc_m0 hC hX (by rfl)) hml hl.1 ⟨by rw [hRf]; decide, by rw [hRl]; decide⟩ ⟨rfl, rfl⟩ (n := 1) (by decide +kernel) rfl rfl rfl (lv_room (Nat.le_of_ble_eq_true rfl)) d_m_readClassName_28 (fun H locs hX hS => ?_)
      exact J31 q28 H locs ls  hX hS (lv_sub hl [1, 0] rfl) h
  · rw [if_neg hc] at h
    refine lv_iconst (v := 0) hx hb d_m_readClassName_7 (by decide) ?_
    obtain rfl := Option.some.inj h
    exact rt_i hQ hx hb hr hX hS hlk d_m_readClassName_8
abbrev y_m_readPermission : MethodName := ({ cls := "TypeGuardModel", name := "readPermission", desc := "(I)V" } : Jvm.MethodName)
theorem d_m_readPermission_0 : decode prog_14_method_25_code 0 = .ok (.aload_n 0, 1) := by decide +kernel
theorem d_m_readPermission_1 : decode prog_14_method_25_code 1 = .ok (.invokevirtual 193, 3) := by decide +kernel
theorem d_m_readPermission_4 : decode prog_14_method_25_code 4 = .ok (.ifCond .ne 4, 3) := by decide +kernel
theorem d_m_readPermission_7 : decode prog_14_method_25_code 7 = .ok (.return_, 1) := by decide +kernel
theorem d_m_readPermission_8 : decode prog_14_method_25_code 8 = .ok (.iconst 0, 1) := by decide +kernel
theorem d_m_readPermission_9 : decode prog_14_method_25_code 9 = .ok (.istore_n 2, 1) := by decide +kernel
theorem d_m_readPermission_10 : decode prog_14_method_25_code 10 = .ok (.iload_n 2, 1) := by decide +kernel
theorem d_m_readPermission_11 : decode prog_14_method_25_code 11 = .ok (.iconst 4, 1) := by decide +kernel
theorem d_m_readPermission_12 : decode prog_14_method_25_code 12 = .ok (.if_icmp .ge 87, 3) := by decide +kernel
theorem d_m_readPermission_15 : decode prog_14_method_25_code 15 = .ok (.iconst 4, 1) := by decide +kernel
theorem d_m_readPermission_16 : decode prog_14_method_25_code 16 = .ok (.aload_n 0, 1) := by decide +kernel
theorem d_m_readPermission_17 : decode prog_14_method_25_code 17 = .ok (.invokevirtual 189, 3) := by decide +kernel
theorem d_m_readPermission_20 : decode prog_14_method_25_code 20 = .ok (.imul, 1) := by decide +kernel
theorem d_m_readPermission_21 : decode prog_14_method_25_code 21 = .ok (.iload_n 2, 1) := by decide +kernel
theorem d_m_readPermission_22 : decode prog_14_method_25_code 22 = .ok (.iadd, 1) := by decide +kernel
theorem d_m_readPermission_23 : decode prog_14_method_25_code 23 = .ok (.istore_n 3, 1) := by decide +kernel
theorem d_m_readPermission_24 : decode prog_14_method_25_code 24 = .ok (.aload_n 0, 1) := by decide +kernel
theorem d_m_readPermission_25 : decode prog_14_method_25_code 25 = .ok (.getfield 61, 3) := by decide +kernel
theorem d_m_readPermission_28 : decode prog_14_method_25_code 28 = .ok (.iload_n 1, 1) := by decide +kernel
theorem d_m_readPermission_29 : decode prog_14_method_25_code 29 = .ok (.iaload, 1) := by decide +kernel
theorem d_m_readPermission_30 : decode prog_14_method_25_code 30 = .ok (.iload_n 2, 1) := by decide +kernel
theorem d_m_readPermission_31 : decode prog_14_method_25_code 31 = .ok (.ishr, 1) := by decide +kernel
theorem d_m_readPermission_32 : decode prog_14_method_25_code 32 = .ok (.iconst 1, 1) := by decide +kernel
theorem d_m_readPermission_33 : decode prog_14_method_25_code 33 = .ok (.iand, 1) := by decide +kernel
theorem d_m_readPermission_34 : decode prog_14_method_25_code 34 = .ok (.ifCond .ne 6, 3) := by decide +kernel
theorem d_m_readPermission_37 : decode prog_14_method_25_code 37 = .ok (.goto 56, 3) := by decide +kernel
theorem d_m_readPermission_40 : decode prog_14_method_25_code 40 = .ok (.aload_n 0, 1) := by decide +kernel
theorem d_m_readPermission_41 : decode prog_14_method_25_code 41 = .ok (.getfield 30, 3) := by decide +kernel
theorem d_m_readPermission_44 : decode prog_14_method_25_code 44 = .ok (.bipush 8, 2) := by decide +kernel
theorem d_m_readPermission_46 : decode prog_14_method_25_code 46 = .ok (.iload_n 3, 1) := by decide +kernel
theorem d_m_readPermission_47 : decode prog_14_method_25_code 47 = .ok (.imul, 1) := by decide +kernel
theorem d_m_readPermission_48 : decode prog_14_method_25_code 48 = .ok (.aload_n 0, 1) := by decide +kernel
theorem d_m_readPermission_49 : decode prog_14_method_25_code 49 = .ok (.getfield 39, 3) := by decide +kernel
theorem d_m_readPermission_52 : decode prog_14_method_25_code 52 = .ok (.iload_n 3, 1) := by decide +kernel
theorem d_m_readPermission_53 : decode prog_14_method_25_code 53 = .ok (.iaload, 1) := by decide +kernel
theorem d_m_readPermission_54 : decode prog_14_method_25_code 54 = .ok (.aload_n 0, 1) := by decide +kernel
theorem d_m_readPermission_55 : decode prog_14_method_25_code 55 = .ok (.getfield 134, 3) := by decide +kernel
theorem d_m_readPermission_58 : decode prog_14_method_25_code 58 = .ok (.invokestatic 157, 3) := by decide +kernel
theorem d_m_readPermission_61 : decode prog_14_method_25_code 61 = .ok (.istore 4, 2) := by decide +kernel
theorem d_m_readPermission_63 : decode prog_14_method_25_code 63 = .ok (.iload 4, 2) := by decide +kernel
theorem d_m_readPermission_65 : decode prog_14_method_25_code 65 = .ok (.ifCond .ge 11, 3) := by decide +kernel
theorem d_m_readPermission_68 : decode prog_14_method_25_code 68 = .ok (.aload_n 0, 1) := by decide +kernel
theorem d_m_readPermission_69 : decode prog_14_method_25_code 69 = .ok (.iconst 2, 1) := by decide +kernel
theorem d_m_readPermission_70 : decode prog_14_method_25_code 70 = .ok (.invokevirtual 141, 3) := by decide +kernel
theorem d_m_readPermission_73 : decode prog_14_method_25_code 73 = .ok (.goto 20, 3) := by decide +kernel
theorem d_m_readPermission_76 : decode prog_14_method_25_code 76 = .ok (.aload_n 0, 1) := by decide +kernel
theorem d_m_readPermission_77 : decode prog_14_method_25_code 77 = .ok (.getfield 73, 3) := by decide +kernel
theorem d_m_readPermission_80 : decode prog_14_method_25_code 80 = .ok (.iconst 4, 1) := by decide +kernel
theorem d_m_readPermission_81 : decode prog_14_method_25_code 81 = .ok (.iload_n 1, 1) := by decide +kernel
theorem d_m_readPermission_82 : decode prog_14_method_25_code 82 = .ok (.imul, 1) := by decide +kernel
theorem d_m_readPermission_83 : decode prog_14_method_25_code 83 = .ok (.iload_n 2, 1) := by decide +kernel
theorem d_m_readPermission_84 : decode prog_14_method_25_code 84 = .ok (.iadd, 1) := by decide +kernel
theorem d_m_readPermission_85 : decode prog_14_method_25_code 85 = .ok (.dup2, 1) := by decide +kernel
theorem d_m_readPermission_86 : decode prog_14_method_25_code 86 = .ok (.iaload, 1) := by decide +kernel
theorem d_m_readPermission_87 : decode prog_14_method_25_code 87 = .ok (.iconst 1, 1) := by decide +kernel
theorem d_m_readPermission_88 : decode prog_14_method_25_code 88 = .ok (.iload 4, 2) := by decide +kernel
theorem d_m_readPermission_90 : decode prog_14_method_25_code 90 = .ok (.ishl, 1) := by decide +kernel
theorem d_m_readPermission_91 : decode prog_14_method_25_code 91 = .ok (.ior, 1) := by decide +kernel
theorem d_m_readPermission_92 : decode prog_14_method_25_code 92 = .ok (.iastore, 1) := by decide +kernel
theorem d_m_readPermission_93 : decode prog_14_method_25_code 93 = .ok (.iinc 2 1, 3) := by decide +kernel
theorem d_m_readPermission_96 : decode prog_14_method_25_code 96 = .ok (.goto (-86), 3) := by decide +kernel
theorem d_m_readPermission_99 : decode prog_14_method_25_code 99 = .ok (.aload_n 0, 1) := by decide +kernel
theorem d_m_readPermission_100 : decode prog_14_method_25_code 100 = .ok (.invokevirtual 148, 3) := by decide +kernel
theorem d_m_readPermission_103 : decode prog_14_method_25_code 103 = .ok (.return_, 1) := by decide +kernel
def m_readPermission_L10 (v1_10 : Int32) : Nat → Int32 → MS → Option MS
  | 0, _, _ => none
  | n + 1, v2_10, S_10 => (if 4 ≤ v2_10 then ((m_next S_10).bind fun q100 => some q100) else ((m_own S_10).bind fun q17 => (bd (((4 * q17) + v2_10)) fun a23 => (if inbd v1_10 48 = true then (if (((gI S_10 16 (txN v1_10)) >>> (v2_10 &&& 31)) &&& 1) = 0 then (bd ((v2_10 + 1)) fun a93 => (m_readPermission_L10 v1_10 n) a93 S_10) else (if inbd a23 8 = true then ((m_find 6 (8 * a23) (gI S_10 9 (txN a23)) (gL S_10 0 11) S_10).bind fun q58 => (if 0 ≤ q58 then (bd (((4 * v1_10) + v2_10)) fun a85 => (if inbd a85 192 = true then (if inbd a85 192 = true then (bd (pI S_10 20 (txN a85) ((gI S_10 20 (txN a85)) ||| (1 <<< (q58 &&& 31)))) fun S92 => (bd ((v2_10 + 1)) fun a93 => (m_readPermission_L10 v1_10 n) a93 S92)) else none) else none)) else ((m_fail 2 S_10).bind fun q70 => (bd ((v2_10 + 1)) fun a93 => (m_readPermission_L10 v1_10 n) a93 q70)))) else none)) else none))))
def m_readPermission (x1 : Int32) (S : MS) : Option MS := ((m_isName S).bind fun q1 => (if q1.2 = true then m_readPermission_L10 x1 600 0 q1.1 else some q1.1))
set_option maxHeartbeats 4000000 in
set_option maxRecDepth 100000 in
theorem M_m_readPermission {l : Launch} {D : va_G} {cA : Nat → ClassId} {b : Nat} {ad : Nat → Nat} {x1 : Int32} {S : MS} {T : CS} {o : Nat → Int64} {rr : MS}  (h : m_readPermission x1 S = some rr) : Met l y_m_readPermission (Cond.code y_m_readPermission prog_14_method_25_code 5 (Option.none : Option Jvm.ClassFile.FieldType) :: TW) { frames := 3, cells := 0, slots := 0, locals := 62 } (va_Pc [.ref (b + 262), .int x1] (Rp D cA b ad (T, S, o))) (Qr D cA b ad (T, rr, o) none) 0 0 (Ab b) := by
  refine Ct_of (by decide) (Nat.le_of_ble_eq_true rfl) ?_
  intro p e R s m args below meth c ls Q H locs hR hQ hx hb hts hown hml hr hlk hC hX hS hl
  have hRf : R.frames = 3 := by rw [hR]
  have hRl : R.locals = 62 := by rw [hR]
  have hown : s.vm.findClass "TypeGuardModel" = some m.cls := hown
  have hl : lv_has ls 5 [(0, .ref (b + 262)), (1, .int x1)] := hl
  rw [m_readPermission] at h
  refine lv_aload_n hx hb d_m_readPermission_0 rfl (lv_at hl 0 rfl) ?_
  obtain ⟨q1, hc1, h⟩ := Option.bind_eq_some_iff.mp h
  refine ck_V (As := []) (rest := []) (st1 := [.int (bI q1.2)]) (M_m_isName  hc1) t_1202 t_1204 p_47 t_1205 t_13 hx hb hts hown hC hX hS (hrc_m0 hC hX (by rfl)) hml hl.1 ⟨by rw [hRf]; decide, by rw [hRl]; decide⟩ ⟨rfl, rfl⟩ (n := 0) (by decide +kernel) rfl rfl rfl (lv_room (Nat.le_of_ble_eq_true rfl)) d_m_readPermission_1 (fun H locs hX hS => ?_)
  refine lz_ifne hx hb d_m_readPermission_4 (tgt := 8) (by decide) (fun hc => ?_) (fun hc => ?_)
  · rw [if_pos hc] at h
    refine lv_iconst (v := 0) hx hb d_m_readPermission_8 (by decide) ?_
    refine lv_istore_n (lv' := [(2, .int 0), (0, .ref (b + 262)), (1, .int x1)]) hx hb d_m_readPermission_9 rfl hl (by decide) rfl (fun ls hl => ?_)
    have L10 : ∀ (n10 : Nat) (v2_10 : Int32) (S_10 : MS) (H : Heap) (locs : List Loc) (ls : Array Slot), hp D cA b ad (T, S_10, o) H → va_S (Ab b) s.heap H locs → lv_has ls 5 [(0, .ref (b + 262)), (1, .int x1), (2, .int v2_10)] → m_readPermission_L10 x1 n10 v2_10 S_10 = some rr → W p l e R s m args below meth c H locs 0 0 Q (F0 m 10 ls []) := by
      intro n10; induction n10 with
      | zero => intro v2_10 S_10 H locs ls  hX hS hl h; rw [m_readPermission_L10] at h; cases h
      | succ n10 ih10 =>
        intro v2_10 S_10 H locs ls  hX hS hl h
        rw [m_readPermission_L10] at h
        refine lv_iload_n hx hb d_m_readPermission_10 rfl (lv_at hl 2 rfl) ?_
        refine lv_iconst (v := 4) hx hb d_m_readPermission_11 (by decide) ?_
        refine lv_icmp_ge hx hb d_m_readPermission_12 (tgt := 99) (by decide) (fun hc => ?_) (fun hc => ?_)
        · rw [if_pos hc] at h
          refine lv_aload_n hx hb d_m_readPermission_99 rfl (lv_at hl 0 rfl) ?_
          obtain ⟨q100, hc100, h⟩ := Option.bind_eq_some_iff.mp h
          refine ck_V (As := []) (rest := []) (st1 := []) (M_m_next  hc100) t_1149 t_1151 p_39 t_1152 t_13 hx hb hts hown hC hX hS (hrc_m0 hC hX (by rfl)) hml hl.1 ⟨by rw [hRf]; decide, by rw [hRl]; decide⟩ ⟨rfl, rfl⟩ (n := 0) (by decide +kernel) rfl rfl rfl (lv_room (Nat.le_of_ble_eq_true rfl)) d_m_readPermission_100 (fun H locs hX hS => ?_)
          obtain rfl := Option.some.inj h
          exact rt_v hQ hx hb hr hX hS hlk d_m_readPermission_103
        · rw [if_neg hc] at h
          refine lv_iconst (v := 4) hx hb d_m_readPermission_15 (by decide) ?_
          refine lv_aload_n hx hb d_m_readPermission_16 rfl (lv_at hl 0 rfl) ?_
          obtain ⟨q17, hc17, h⟩ := Option.bind_eq_some_iff.mp h
          refine ck_V (As := []) (rest := [.int 4]) (st1 := [.int q17, .int 4]) (M_m_own  hc17) t_1145 t_1147 p_38 t_1148 t_13 hx hb hts hown hC hX hS (hrc_m0 hC hX (by rfl)) hml hl.1 ⟨by rw [hRf]; decide, by rw [hRl]; decide⟩ ⟨rfl, rfl⟩ (n := 0) (by decide +kernel) rfl rfl rfl (lv_room (Nat.le_of_ble_eq_true rfl)) d_m_readPermission_17 (fun H locs hX hS => ?_)
          refine lv_imul hx hb d_m_readPermission_20 ?_
          refine lv_iload_n hx hb d_m_readPermission_21 rfl (lv_at hl 2 rfl) ?_
          refine lv_iadd hx hb d_m_readPermission_22 ?_
          obtain ⟨a23, e23, h⟩ := bd_some h
          refine lt_I e23 ?_
          refine lv_istore_n (lv' := [(3, .int a23), (0, .ref (b + 262)), (1, .int x1), (2, .int v2_10)]) hx hb d_m_readPermission_23 rfl hl (by decide) rfl (fun ls hl => ?_)
          refine lv_aload_n hx hb d_m_readPermission_24 rfl (lv_at hl 1 rfl) ?_
          refine m_get_0_27 hx hb hts hown hC hX (by rfl) (hts _ t_1014) d_m_readPermission_25 ?_
          refine lv_iload_n hx hb d_m_readPermission_28 rfl (lv_at hl 2 rfl) ?_
          by_cases hg29 : inbd x1 48 = true
          rotate_left; · rw [if_neg hg29] at h; cases h
          rw [if_pos hg29] at h
          refine m_ald_1 (k := 16) hx hb hC hX (by rfl) hg29 d_m_readPermission_29 ?_
          refine lv_iload_n hx hb d_m_readPermission_30 rfl (lv_at hl 3 rfl) ?_
          refine lv_ishr hx hb d_m_readPermission_31 ?_
          refine lv_iconst (v := 1) hx hb d_m_readPermission_32 (by decide) ?_
          refine lv_iand hx hb d_m_readPermission_33 ?_
          refine lv_if_ne hx hb d_m_readPermission_34 (tgt := 40) (by decide) (fun hc => ?_) (fun hc => ?_)
          · rw [if_neg hc] at h
            refine lv_aload_n hx hb d_m_readPermission_40 rfl (lv_at hl 1 rfl) ?_
            refine m_get_0_17 hx hb hts hown hC hX (by rfl) (hts _ t_1004) d_m_readPermission_41 ?_
            refine lv_bipush (v := 8) hx hb d_m_readPermission_44 (by decide) ?_
            refine lv_iload_n hx hb d_m_readPermission_46 rfl (lv_at hl 0 rfl) ?_
            refine lv_imul hx hb d_m_readPermission_47 ?_
            refine lv_aload_n hx hb d_m_readPermission_48 rfl (lv_at hl 1 rfl) ?_
            refine m_get_0_20 hx hb hts hown hC hX (by rfl) (hts _ t_1007) d_m_readPermission_49 ?_
            refine lv_iload_n hx hb d_m_readPermission_52 rfl (lv_at hl 0 rfl) ?_
            by_cases hg53 : inbd a23 8 = true
            rotate_left; · rw [if_neg hg53] at h; cases h
            rw [if_pos hg53] at h
            refine m_ald_1 (k := 9) hx hb hC hX (by rfl) hg53 d_m_readPermission_53 ?_
            refine lv_aload_n hx hb d_m_readPermission_54 rfl (lv_at hl 1 rfl) ?_
            refine m_get_0_11 hx hb hts hown hC hX (by rfl) (hts _ t_998) d_m_readPermission_55 ?_
            obtain ⟨q58, hc58, h⟩ := Option.bind_eq_some_iff.mp h
            refine ck_S (As := [.ref (b + 268), .int (8 * a23), .int (gI S_10 9 (txN a23)), .long (gL S_10 0 11)]) (rest := []) (st1 := [.int q58]) (M_m_find (by rfl) hc58) t_1210 t_1211 t_1212 t_13 hx hb hts hown hC hX hS  hml hl.1 ⟨by rw [hRf]; decide, by rw [hRl]; decide⟩ ⟨rfl, rfl⟩ (n := 4) (by decide +kernel) rfl rfl rfl (lv_room (Nat.le_of_ble_eq_true rfl)) d_m_readPermission_58 (fun H locs hX hS => ?_)
            refine lv_istore (lv' := [(4, .int q58), (3, .int a23), (0, .ref (b + 262)), (1, .int x1), (2, .int v2_10)]) hx hb d_m_readPermission_61 hl (by decide) rfl (fun ls hl => ?_)
            refine lv_iload hx hb d_m_readPermission_63 (lv_at hl 0 rfl) ?_
            refine lv_if_ge hx hb d_m_readPermission_65 (tgt := 76) (by decide) (fun hc => ?_) (fun hc => ?_)
            · rw [if_pos hc] at h
              refine lv_aload_n hx hb d_m_readPermission_76 rfl (lv_at hl 2 rfl) ?_
              refine m_get_0_31 hx hb hts hown hC hX (by rfl) (hts _ t_1018) d_m_readPermission_77 ?_
              refine lv_iconst (v := 4) hx hb d_m_readPermission_80 (by decide) ?_
              refine lv_iload_n hx hb d_m_readPermission_81 rfl (lv_at hl 3 rfl) ?_
              refine lv_imul hx hb d_m_readPermission_82 ?_
              refine lv_iload_n hx hb d_m_readPermission_83 rfl (lv_at hl 4 rfl) ?_
              refine lv_iadd hx hb d_m_readPermission_84 ?_
              obtain ⟨a85, e85, h⟩ := bd_some h
              refine lt_I e85 ?_
              refine lv_dup2_11 hx hb d_m_readPermission_85 rfl rfl ?_
              by_cases hg86 : inbd a85 192 = true
              rotate_left; · rw [if_neg hg86] at h; cases h
              rw [if_pos hg86] at h
              refine m_ald_1 (k := 20) hx hb hC hX (by rfl) hg86 d_m_readPermission_86 ?_
              refine lv_iconst (v := 1) hx hb d_m_readPermission_87 (by decide) ?_
              refine lv_iload hx hb d_m_readPermission_88 (lv_at hl 0 rfl) ?_
              refine lv_ishl hx hb d_m_readPermission_90 ?_
              refine lv_ior hx hb d_m_readPermission_91 ?_
              by_cases hg92 : inbd a85 192 = true
              rotate_left; · rw [if_neg hg92] at h; cases h
              rw [if_pos hg92] at h
              refine m_ast_1 (k := 20) (v := ((gI S_10 20 (txN a85)) ||| (1 <<< (q58 &&& 31)))) hx hb hC hX hS (by rfl) hg92 d_m_readPermission_92 (fun H locs hX hS => ?_)
              obtain ⟨S92, e92, h⟩ := bd_some h
              rw [← e92] at hX
              obtain ⟨a93, e93, h⟩ := bd_some h
              refine lv_iinc (v := a93) (lv' := [(2, .int a93), (4, .int q58), (3, .int a23), (0, .ref (b + 262)), (1, .int x1)]) hx hb d_m_readPermission_93 hl (k := 4) rfl e93.symm (by decide) rfl (fun ls hl => ?_)
              refine lv_goto hx hb d_m_readPermission_96 (tgt := 10) (by decide) ?_
              exact ih10 a93 S92 H locs ls  hX hS (lv_sub hl [3, 4, 0] rfl) h
            · rw [if_neg hc] at h
              refine lv_aload_n hx hb d_m_readPermission_68 rfl (lv_at hl 2 rfl) ?_
              refine lv_iconst (v := 2) hx hb d_m_readPermission_69 (by decide) ?_
              obtain ⟨q70, hc70, h⟩ := Option.bind_eq_some_iff.mp h
              refine ck_V (As := [.int 2]) (rest := []) (st1 := []) (M_m_fail  hc70) t_1159 t_1161 p_40 t_1162 t_13 hx hb hts hown hC hX hS (hrc_m0 hC hX (by rfl)) hml hl.1 ⟨by rw [hRf]; decide, by rw [hRl]; decide⟩ ⟨rfl, rfl⟩ (n := 1) (by decide +kernel) rfl rfl rfl (lv_room (Nat.le_of_ble_eq_true rfl)) d_m_readPermission_70 (fun H locs hX hS => ?_)
              refine lv_goto hx hb d_m_readPermission_73 (tgt := 93) (by decide) ?_
              obtain ⟨a93, e93, h⟩ := bd_some h
              refine lv_iinc (v := a93) (lv' := [(2, .int a93), (4, .int q58), (3, .int a23), (0, .ref (b + 262)), (1, .int x1)]) hx hb d_m_readPermission_93 hl (k := 4) rfl e93.symm (by decide) rfl (fun ls hl => ?_)
              refine lv_goto hx hb d_m_readPermission_96 (tgt := 10) (by decide) ?_
              exact ih10 a93 q70 H locs ls  hX hS (lv_sub hl [3, 4, 0] rfl) h
          · rw [if_pos hc] at h
            refine lv_goto hx hb d_m_readPermission_37 (tgt := 93) (by decide) ?_
            obtain ⟨a93, e93, h⟩ := bd_some h
            refine lv_iinc (v := a93) (lv' := [(2, .int a93), (3, .int a23), (0, .ref (b + 262)), (1, .int x1)]) hx hb d_m_readPermission_93 hl (k := 3) rfl e93.symm (by decide) rfl (fun ls hl => ?_)
            refine lv_goto hx hb d_m_readPermission_96 (tgt := 10) (by decide) ?_
            exact ih10 a93 S_10 H locs ls  hX hS (lv_sub hl [2, 3, 0] rfl) h
    exact L10 600 0 q1.1 H locs ls  hX hS (lv_sub hl [1, 2, 0] rfl) h
  · rw [if_neg hc] at h
    obtain rfl := Option.some.inj h
    exact rt_v hQ hx hb hr hX hS hlk d_m_readPermission_7
abbrev y_m_readPermissions : MethodName := ({ cls := "TypeGuardModel", name := "readPermissions", desc := "(I)V" } : Jvm.MethodName)
theorem d_m_readPermissions_0 : decode prog_14_method_26_code 0 = .ok (.aload_n 0, 1) := by decide +kernel
theorem d_m_readPermissions_1 : decode prog_14_method_26_code 1 = .ok (.bipush 126, 2) := by decide +kernel
theorem d_m_readPermissions_3 : decode prog_14_method_26_code 3 = .ok (.invokevirtual 151, 3) := by decide +kernel
theorem d_m_readPermissions_6 : decode prog_14_method_26_code 6 = .ok (.istore_n 2, 1) := by decide +kernel
theorem d_m_readPermissions_7 : decode prog_14_method_26_code 7 = .ok (.aload_n 0, 1) := by decide +kernel
theorem d_m_readPermissions_8 : decode prog_14_method_26_code 8 = .ok (.bipush 42, 2) := by decide +kernel
theorem d_m_readPermissions_10 : decode prog_14_method_26_code 10 = .ok (.invokevirtual 145, 3) := by decide +kernel
theorem d_m_readPermissions_13 : decode prog_14_method_26_code 13 = .ok (.istore_n 3, 1) := by decide +kernel
theorem d_m_readPermissions_14 : decode prog_14_method_26_code 14 = .ok (.iload_n 3, 1) := by decide +kernel
theorem d_m_readPermissions_15 : decode prog_14_method_26_code 15 = .ok (.ifCond .eq 10, 3) := by decide +kernel
theorem d_m_readPermissions_18 : decode prog_14_method_26_code 18 = .ok (.aload_n 0, 1) := by decide +kernel
theorem d_m_readPermissions_19 : decode prog_14_method_26_code 19 = .ok (.invokevirtual 148, 3) := by decide +kernel
theorem d_m_readPermissions_22 : decode prog_14_method_26_code 22 = .ok (.goto 61, 3) := by decide +kernel
theorem d_m_readPermissions_25 : decode prog_14_method_26_code 25 = .ok (.aload_n 0, 1) := by decide +kernel
theorem d_m_readPermissions_26 : decode prog_14_method_26_code 26 = .ok (.bipush 123, 2) := by decide +kernel
theorem d_m_readPermissions_28 : decode prog_14_method_26_code 28 = .ok (.invokevirtual 151, 3) := by decide +kernel
theorem d_m_readPermissions_31 : decode prog_14_method_26_code 31 = .ok (.ifCond .eq 47, 3) := by decide +kernel
theorem d_m_readPermissions_34 : decode prog_14_method_26_code 34 = .ok (.iconst 1, 1) := by decide +kernel
theorem d_m_readPermissions_35 : decode prog_14_method_26_code 35 = .ok (.istore 4, 2) := by decide +kernel
theorem d_m_readPermissions_37 : decode prog_14_method_26_code 37 = .ok (.aload_n 0, 1) := by decide +kernel
theorem d_m_readPermissions_38 : decode prog_14_method_26_code 38 = .ok (.getfield 109, 3) := by decide +kernel
theorem d_m_readPermissions_41 : decode prog_14_method_26_code 41 = .ok (.ifCond .ne 28, 3) := by decide +kernel
theorem d_m_readPermissions_44 : decode prog_14_method_26_code 44 = .ok (.iload 4, 2) := by decide +kernel
theorem d_m_readPermissions_46 : decode prog_14_method_26_code 46 = .ok (.ifCond .ne 12, 3) := by decide +kernel
theorem d_m_readPermissions_49 : decode prog_14_method_26_code 49 = .ok (.aload_n 0, 1) := by decide +kernel
theorem d_m_readPermissions_50 : decode prog_14_method_26_code 50 = .ok (.bipush 125, 2) := by decide +kernel
theorem d_m_readPermissions_52 : decode prog_14_method_26_code 52 = .ok (.invokevirtual 145, 3) := by decide +kernel
theorem d_m_readPermissions_55 : decode prog_14_method_26_code 55 = .ok (.ifCond .ne 14, 3) := by decide +kernel
theorem d_m_readPermissions_58 : decode prog_14_method_26_code 58 = .ok (.iconst 0, 1) := by decide +kernel
theorem d_m_readPermissions_59 : decode prog_14_method_26_code 59 = .ok (.istore 4, 2) := by decide +kernel
theorem d_m_readPermissions_61 : decode prog_14_method_26_code 61 = .ok (.aload_n 0, 1) := by decide +kernel
theorem d_m_readPermissions_62 : decode prog_14_method_26_code 62 = .ok (.iload_n 1, 1) := by decide +kernel
theorem d_m_readPermissions_63 : decode prog_14_method_26_code 63 = .ok (.invokevirtual 220, 3) := by decide +kernel
theorem d_m_readPermissions_66 : decode prog_14_method_26_code 66 = .ok (.goto (-29), 3) := by decide +kernel
theorem d_m_readPermissions_69 : decode prog_14_method_26_code 69 = .ok (.aload_n 0, 1) := by decide +kernel
theorem d_m_readPermissions_70 : decode prog_14_method_26_code 70 = .ok (.bipush 125, 2) := by decide +kernel
theorem d_m_readPermissions_72 : decode prog_14_method_26_code 72 = .ok (.invokevirtual 212, 3) := by decide +kernel
theorem d_m_readPermissions_75 : decode prog_14_method_26_code 75 = .ok (.goto 8, 3) := by decide +kernel
theorem d_m_readPermissions_78 : decode prog_14_method_26_code 78 = .ok (.aload_n 0, 1) := by decide +kernel
theorem d_m_readPermissions_79 : decode prog_14_method_26_code 79 = .ok (.iload_n 1, 1) := by decide +kernel
theorem d_m_readPermissions_80 : decode prog_14_method_26_code 80 = .ok (.invokevirtual 220, 3) := by decide +kernel
theorem d_m_readPermissions_83 : decode prog_14_method_26_code 83 = .ok (.iconst 0, 1) := by decide +kernel
theorem d_m_readPermissions_84 : decode prog_14_method_26_code 84 = .ok (.istore 4, 2) := by decide +kernel
theorem d_m_readPermissions_86 : decode prog_14_method_26_code 86 = .ok (.iload 4, 2) := by decide +kernel
theorem d_m_readPermissions_88 : decode prog_14_method_26_code 88 = .ok (.iconst 4, 1) := by decide +kernel
theorem d_m_readPermissions_89 : decode prog_14_method_26_code 89 = .ok (.if_icmp .ge 96, 3) := by decide +kernel
theorem d_m_readPermissions_92 : decode prog_14_method_26_code 92 = .ok (.iconst 1, 1) := by decide +kernel
theorem d_m_readPermissions_93 : decode prog_14_method_26_code 93 = .ok (.aload_n 0, 1) := by decide +kernel
theorem d_m_readPermissions_94 : decode prog_14_method_26_code 94 = .ok (.getfield 39, 3) := by decide +kernel
theorem d_m_readPermissions_97 : decode prog_14_method_26_code 97 = .ok (.iconst 4, 1) := by decide +kernel
theorem d_m_readPermissions_98 : decode prog_14_method_26_code 98 = .ok (.aload_n 0, 1) := by decide +kernel
theorem d_m_readPermissions_99 : decode prog_14_method_26_code 99 = .ok (.invokevirtual 189, 3) := by decide +kernel
theorem d_m_readPermissions_102 : decode prog_14_method_26_code 102 = .ok (.imul, 1) := by decide +kernel
theorem d_m_readPermissions_103 : decode prog_14_method_26_code 103 = .ok (.iload 4, 2) := by decide +kernel
theorem d_m_readPermissions_105 : decode prog_14_method_26_code 105 = .ok (.iadd, 1) := by decide +kernel
theorem d_m_readPermissions_106 : decode prog_14_method_26_code 106 = .ok (.iaload, 1) := by decide +kernel
theorem d_m_readPermissions_107 : decode prog_14_method_26_code 107 = .ok (.ishl, 1) := by decide +kernel
theorem d_m_readPermissions_108 : decode prog_14_method_26_code 108 = .ok (.iconst 1, 1) := by decide +kernel
theorem d_m_readPermissions_109 : decode prog_14_method_26_code 109 = .ok (.isub, 1) := by decide +kernel
theorem d_m_readPermissions_110 : decode prog_14_method_26_code 110 = .ok (.istore 5, 2) := by decide +kernel
theorem d_m_readPermissions_112 : decode prog_14_method_26_code 112 = .ok (.iload_n 3, 1) := by decide +kernel
theorem d_m_readPermissions_113 : decode prog_14_method_26_code 113 = .ok (.ifCond .eq 8, 3) := by decide +kernel
theorem d_m_readPermissions_116 : decode prog_14_method_26_code 116 = .ok (.iload 5, 2) := by decide +kernel
theorem d_m_readPermissions_118 : decode prog_14_method_26_code 118 = .ok (.goto 14, 3) := by decide +kernel
theorem d_m_readPermissions_121 : decode prog_14_method_26_code 121 = .ok (.aload_n 0, 1) := by decide +kernel
theorem d_m_readPermissions_122 : decode prog_14_method_26_code 122 = .ok (.getfield 73, 3) := by decide +kernel
theorem d_m_readPermissions_125 : decode prog_14_method_26_code 125 = .ok (.iconst 4, 1) := by decide +kernel
theorem d_m_readPermissions_126 : decode prog_14_method_26_code 126 = .ok (.iload_n 1, 1) := by decide +kernel
theorem d_m_readPermissions_127 : decode prog_14_method_26_code 127 = .ok (.imul, 1) := by decide +kernel
theorem d_m_readPermissions_128 : decode prog_14_method_26_code 128 = .ok (.iload 4, 2) := by decide +kernel
theorem d_m_readPermissions_130 : decode prog_14_method_26_code 130 = .ok (.iadd, 1) := by decide +kernel
theorem d_m_readPermissions_131 : decode prog_14_method_26_code 131 = .ok (.iaload, 1) := by decide +kernel
theorem d_m_readPermissions_132 : decode prog_14_method_26_code 132 = .ok (.istore 6, 2) := by decide +kernel
theorem d_m_readPermissions_134 : decode prog_14_method_26_code 134 = .ok (.aload_n 0, 1) := by decide +kernel
theorem d_m_readPermissions_135 : decode prog_14_method_26_code 135 = .ok (.getfield 73, 3) := by decide +kernel
theorem d_m_readPermissions_138 : decode prog_14_method_26_code 138 = .ok (.iconst 4, 1) := by decide +kernel
theorem d_m_readPermissions_139 : decode prog_14_method_26_code 139 = .ok (.iload_n 1, 1) := by decide +kernel
theorem d_m_readPermissions_140 : decode prog_14_method_26_code 140 = .ok (.imul, 1) := by decide +kernel
theorem d_m_readPermissions_141 : decode prog_14_method_26_code 141 = .ok (.iload 4, 2) := by decide +kernel
theorem d_m_readPermissions_143 : decode prog_14_method_26_code 143 = .ok (.iadd, 1) := by decide +kernel
theorem d_m_readPermissions_144 : decode prog_14_method_26_code 144 = .ok (.aload_n 0, 1) := by decide +kernel
theorem d_m_readPermissions_145 : decode prog_14_method_26_code 145 = .ok (.getfield 61, 3) := by decide +kernel
theorem d_m_readPermissions_148 : decode prog_14_method_26_code 148 = .ok (.iload_n 1, 1) := by decide +kernel
theorem d_m_readPermissions_149 : decode prog_14_method_26_code 149 = .ok (.iaload, 1) := by decide +kernel
theorem d_m_readPermissions_150 : decode prog_14_method_26_code 150 = .ok (.iload 4, 2) := by decide +kernel
theorem d_m_readPermissions_152 : decode prog_14_method_26_code 152 = .ok (.ishr, 1) := by decide +kernel
theorem d_m_readPermissions_153 : decode prog_14_method_26_code 153 = .ok (.iconst 1, 1) := by decide +kernel
theorem d_m_readPermissions_154 : decode prog_14_method_26_code 154 = .ok (.iand, 1) := by decide +kernel
theorem d_m_readPermissions_155 : decode prog_14_method_26_code 155 = .ok (.ifCond .ne 7, 3) := by decide +kernel
theorem d_m_readPermissions_158 : decode prog_14_method_26_code 158 = .ok (.iconst 0, 1) := by decide +kernel
theorem d_m_readPermissions_159 : decode prog_14_method_26_code 159 = .ok (.goto 19, 3) := by decide +kernel
theorem d_m_readPermissions_162 : decode prog_14_method_26_code 162 = .ok (.iload_n 2, 1) := by decide +kernel
theorem d_m_readPermissions_163 : decode prog_14_method_26_code 163 = .ok (.ifCond .eq 13, 3) := by decide +kernel
theorem d_m_readPermissions_166 : decode prog_14_method_26_code 166 = .ok (.iload 5, 2) := by decide +kernel
theorem d_m_readPermissions_168 : decode prog_14_method_26_code 168 = .ok (.iload 6, 2) := by decide +kernel
theorem d_m_readPermissions_170 : decode prog_14_method_26_code 170 = .ok (.iconst (-1), 1) := by decide +kernel
theorem d_m_readPermissions_171 : decode prog_14_method_26_code 171 = .ok (.ixor, 1) := by decide +kernel
theorem d_m_readPermissions_172 : decode prog_14_method_26_code 172 = .ok (.iand, 1) := by decide +kernel
theorem d_m_readPermissions_173 : decode prog_14_method_26_code 173 = .ok (.goto 5, 3) := by decide +kernel
theorem d_m_readPermissions_176 : decode prog_14_method_26_code 176 = .ok (.iload 6, 2) := by decide +kernel
theorem d_m_readPermissions_178 : decode prog_14_method_26_code 178 = .ok (.iastore, 1) := by decide +kernel
theorem d_m_readPermissions_179 : decode prog_14_method_26_code 179 = .ok (.iinc 4 1, 3) := by decide +kernel
theorem d_m_readPermissions_182 : decode prog_14_method_26_code 182 = .ok (.goto (-96), 3) := by decide +kernel
theorem d_m_readPermissions_185 : decode prog_14_method_26_code 185 = .ok (.return_, 1) := by decide +kernel
def m_readPermissions_J132 (kO86 : Int32 → MS → Option MS) (v1_132 : Int32) (v2_132 : Bool) (v3_132 : Bool) (v4_132 : Int32) (v5_132 : Int32) (s0_132 : Int32) (S_132 : MS) : Option MS := (if inbd v1_132 48 = true then (if (((gI S_132 16 (txN v1_132)) >>> (v4_132 &&& 31)) &&& 1) = 0 then (if inbd ((4 * v1_132) + v4_132) 192 = true then (bd (pI S_132 20 (txN ((4 * v1_132) + v4_132)) 0) fun S178 => (bd ((v4_132 + 1)) fun a179 => kO86 a179 S178)) else none) else (if v2_132 = true then (if inbd ((4 * v1_132) + v4_132) 192 = true then (bd (pI S_132 20 (txN ((4 * v1_132) + v4_132)) (v5_132 &&& (s0_132 ^^^ (-1)))) fun S178 => (bd ((v4_132 + 1)) fun a179 => kO86 a179 S178)) else none) else (if inbd ((4 * v1_132) + v4_132) 192 = true then (bd (pI S_132 20 (txN ((4 * v1_132) + v4_132)) s0_132) fun S178 => (bd ((v4_132 + 1)) fun a179 => kO86 a179 S178)) else none))) else none)
def m_readPermissions_L86 (v1_86 : Int32) (v2_86 : Bool) (v3_86 : Bool) : Nat → Int32 → MS → Option MS
  | 0, _, _ => none
  | n + 1, v4_86, S_86 => (if 4 ≤ v4_86 then some S_86 else ((m_own S_86).bind fun q99 => (if inbd ((4 * q99) + v4_86) 8 = true then (bd (((1 <<< ((gI S_86 9 (txN ((4 * q99) + v4_86))) &&& 31)) - 1)) fun a110 => (if v3_86 = true then m_readPermissions_J132 (m_readPermissions_L86 v1_86 v2_86 v3_86 n) v1_86 v2_86 v3_86 v4_86 a110 a110 S_86 else (if inbd ((4 * v1_86) + v4_86) 192 = true then m_readPermissions_J132 (m_readPermissions_L86 v1_86 v2_86 v3_86 n) v1_86 v2_86 v3_86 v4_86 a110 (gI S_86 20 (txN ((4 * v1_86) + v4_86))) S_86 else none))) else none)))
def m_readPermissions_J69 (v1_69 : Int32) (v2_69 : Bool) (v3_69 : Bool) (S_69 : MS) : Option MS := ((m_must 125 S_69).bind fun q72 => m_readPermissions_L86 v1_69 v2_69 v3_69 600 0 q72)
def m_readPermissions_J58 (kO37 : Int32 → MS → Option MS) (v1_58 : Int32) (v2_58 : Bool) (v3_58 : Bool) (S_58 : MS) : Option MS := ((m_readPermission v1_58 S_58).bind fun q63 => kO37 0 q63)
def m_readPermissions_L37 (v1_37 : Int32) (v2_37 : Bool) (v3_37 : Bool) : Nat → Int32 → MS → Option MS
  | 0, _, _ => none
  | n + 1, v4_37, S_37 => (if (gI S_37 0 7) = 0 then (if v4_37 = 0 then ((m_is 125 S_37).bind fun q52 => (if q52 = true then m_readPermissions_J69 v1_37 v2_37 v3_37 S_37 else m_readPermissions_J58 (m_readPermissions_L37 v1_37 v2_37 v3_37 n) v1_37 v2_37 v3_37 S_37)) else m_readPermissions_J58 (m_readPermissions_L37 v1_37 v2_37 v3_37 n) v1_37 v2_37 v3_37 S_37) else m_readPermissions_J69 v1_37 v2_37 v3_37 S_37)
def m_readPermissions (x1 : Int32) (S : MS) : Option MS := ((m_passes 126 S).bind fun q3 => ((m_is 42 q3.1).bind fun q10 => (if q10 = true then ((m_next q3.1).bind fun q19 => m_readPermissions_L86 x1 q3.2 q10 600 0 q19) else ((m_passes 123 q3.1).bind fun q28 => (if q28.2 = true then m_readPermissions_L37 x1 q3.2 q10 600 1 q28.1 else ((m_readPermission x1 q28.1).bind fun q80 => m_readPermissions_L86 x1 q3.2 q10 600 0 q80))))))
set_option maxHeartbeats 4000000 in
set_option maxRecDepth 100000 in
theorem M_m_readPermissions {l : Launch} {D : va_G} {cA : Nat → ClassId} {b : Nat} {ad : Nat → Nat} {x1 : Int32} {S : MS} {T : CS} {o : Nat → Int64} {rr : MS}  (h : m_readPermissions x1 S = some rr) : Met l y_m_readPermissions (Cond.code y_m_readPermissions prog_14_method_26_code 7 (Option.none : Option Jvm.ClassFile.FieldType) :: TW) { frames := 5, cells := 0, slots := 0, locals := 105 } (va_Pc [.ref (b + 262), .int x1] (Rp D cA b ad (T, S, o))) (Qr D cA b ad (T, rr, o) none) 0 0 (Ab b) := by
  refine Ct_of (by decide) (Nat.le_of_ble_eq_true rfl) ?_
  intro p e R s m args below meth c ls Q H locs hR hQ hx hb hts hown hml hr hlk hC hX hS hl
  have hRf : R.frames = 5 := by rw [hR]
  have hRl : R.locals = 105 := by rw [hR]
  have hown : s.vm.findClass "TypeGuardModel" = some m.cls := hown
  have hl : lv_has ls 7 [(0, .ref (b + 262)), (1, .int x1)] := hl
  rw [m_readPermissions] at h
  refine lv_aload_n hx hb d_m_readPermissions_0 rfl (lv_at hl 0 rfl) ?_
  refine lv_bipush (v := 126) hx hb d_m_readPermissions_1 (by decide) ?_
  obtain ⟨q3, hc3, h⟩ := Option.bind_eq_some_iff.mp h
  refine ck_V (As := [.int 126]) (rest := []) (st1 := [.int (bI q3.2)]) (M_m_passes  hc3) t_1188 t_1190 p_44 t_1191 t_13 hx hb hts hown hC hX hS (hrc_m0 hC hX (by rfl)) hml hl.1 ⟨by rw [hRf]; decide, by rw [hRl]; decide⟩ ⟨rfl, rfl⟩ (n := 1) (by decide +kernel) rfl rfl rfl (lv_room (Nat.le_of_ble_eq_true rfl)) d_m_readPermissions_3 (fun H locs hX hS => ?_)
  refine lv_istore_n (lv' := [(2, .int (bI q3.2)), (0, .ref (b + 262)), (1, .int x1)]) hx hb d_m_readPermissions_6 rfl hl (by decide) rfl (fun ls hl => ?_)
  refine lv_aload_n hx hb d_m_readPermissions_7 rfl (lv_at hl 1 rfl) ?_
  refine lv_bipush (v := 42) hx hb d_m_readPermissions_8 (by decide) ?_
  obtain ⟨q10, hc10, h⟩ := Option.bind_eq_some_iff.mp h
  refine ck_V (As := [.int 42]) (rest := []) (st1 := [.int (bI q10)]) (M_m_is  hc10) t_1192 t_1194 p_45 t_1195 t_13 hx hb hts hown hC hX hS (hrc_m0 hC hX (by rfl)) hml hl.1 ⟨by rw [hRf]; decide, by rw [hRl]; decide⟩ ⟨rfl, rfl⟩ (n := 1) (by decide +kernel) rfl rfl rfl (lv_room (Nat.le_of_ble_eq_true rfl)) d_m_readPermissions_10 (fun H locs hX hS => ?_)
  refine lv_istore_n (lv' := [(3, .int (bI q10)), (2, .int (bI q3.2)), (0, .ref (b + 262)), (1, .int x1)]) hx hb d_m_readPermissions_13 rfl hl (by decide) rfl (fun ls hl => ?_)
  refine lv_iload_n hx hb d_m_readPermissions_14 rfl (lv_at hl 0 rfl) ?_
  refine lz_ifeq hx hb d_m_readPermissions_15 (tgt := 25) (by decide) (fun hc => ?_) (fun hc => ?_)
  · rw [if_neg hc] at h
    refine lv_aload_n hx hb d_m_readPermissions_25 rfl (lv_at hl 2 rfl) ?_
    refine lv_bipush (v := 123) hx hb d_m_readPermissions_26 (by decide) ?_
    obtain ⟨q28, hc28, h⟩ := Option.bind_eq_some_iff.mp h
    refine ck_V (As := [.int 123]) (rest := []) (st1 := [.int (bI q28.2)]) (M_m_passes  hc28) t_1188 t_1190 p_44 t_1191 t_13 hx hb hts hown hC hX hS (hrc_m0 hC hX (by rfl)) hml hl.1 ⟨by rw [hRf]; decide, by rw [hRl]; decide⟩ ⟨rfl, rfl⟩ (n := 1) (by decide +kernel) rfl rfl rfl (lv_room (Nat.le_of_ble_eq_true rfl)) d_m_readPermissions_28 (fun H locs hX hS => ?_)
    refine lz_ifeq hx hb d_m_readPermissions_31 (tgt := 78) (by decide) (fun hc => ?_) (fun hc => ?_)
    · rw [if_neg hc] at h
      refine lv_aload_n hx hb d_m_readPermissions_78 rfl (lv_at hl 2 rfl) ?_
      refine lv_iload_n hx hb d_m_readPermissions_79 rfl (lv_at hl 3 rfl) ?_
      obtain ⟨q80, hc80, h⟩ := Option.bind_eq_some_iff.mp h
      refine ck_V (As := [.int x1]) (rest := []) (st1 := []) (M_m_readPermission  hc80) t_1230 t_1232 p_53 t_1233 t_13 hx hb hts hown hC hX hS (hrc_m0 hC hX (by rfl)) hml hl.1 ⟨by rw [hRf]; decide, by rw [hRl]; decide⟩ ⟨rfl, rfl⟩ (n := 1) (by decide +kernel) rfl rfl rfl (lv_room (Nat.le_of_ble_eq_true rfl)) d_m_readPermissions_80 (fun H locs hX hS => ?_)
      refine lv_iconst (v := 0) hx hb d_m_readPermissions_83 (by decide) ?_
      refine lv_istore (lv' := [(4, .int 0), (3, .int (bI q10)), (2, .int (bI q3.2)), (0, .ref (b + 262)), (1, .int x1)]) hx hb d_m_readPermissions_84 hl (by decide) rfl (fun ls hl => ?_)
      have L86 : ∀ (n86 : Nat) (v4_86 : Int32) (S_86 : MS) (H : Heap) (locs : List Loc) (ls : Array Slot), hp D cA b ad (T, S_86, o) H → va_S (Ab b) s.heap H locs → lv_has ls 7 [(0, .ref (b + 262)), (1, .int x1), (2, .int (bI q3.2)), (3, .int (bI q10)), (4, .int v4_86)] → m_readPermissions_L86 x1 q3.2 q10 n86 v4_86 S_86 = some rr → W p l e R s m args below meth c H locs 0 0 Q (F0 m 86 ls []) := by
        intro n86; induction n86 with
        | zero => intro v4_86 S_86 H locs ls  hX hS hl h; rw [m_readPermissions_L86] at h; cases h
        | succ n86 ih86 =>
          intro v4_86 S_86 H locs ls  hX hS hl h
          rw [m_readPermissions_L86] at h
          refine lv_iload hx hb d_m_readPermissions_86 (lv_at hl 4 rfl) ?_
          refine lv_iconst (v := 4) hx hb d_m_readPermissions_88 (by decide) ?_
          refine lv_icmp_ge hx hb d_m_readPermissions_89 (tgt := 185) (by decide) (fun hc => ?_) (fun hc => ?_)
          · rw [if_pos hc] at h
            obtain rfl := Option.some.inj h
            exact rt_v hQ hx hb hr hX hS hlk d_m_readPermissions_185
          · rw [if_neg hc] at h
            refine lv_iconst (v := 1) hx hb d_m_readPermissions_92 (by decide) ?_
            refine lv_aload_n hx hb d_m_readPermissions_93 rfl (lv_at hl 0 rfl) ?_
            refine m_get_0_20 hx hb hts hown hC hX (by rfl) (hts _ t_1007) d_m_readPermissions_94 ?_
            refine lv_iconst (v := 4) hx hb d_m_readPermissions_97 (by decide) ?_
            refine lv_aload_n hx hb d_m_readPermissions_98 rfl (lv_at hl 0 rfl) ?_
            obtain ⟨q99, hc99, h⟩ := Option.bind_eq_some_iff.mp h
            refine ck_V (As := []) (rest := [.int 4, .ref (b + 271), .int 1]) (st1 := [.int q99, .int 4, .ref (b + 271), .int 1]) (M_m_own  hc99) t_1145 t_1147 p_38 t_1148 t_13 hx hb hts hown hC hX hS (hrc_m0 hC hX (by rfl)) hml hl.1 ⟨by rw [hRf]; decide, by rw [hRl]; decide⟩ ⟨rfl, rfl⟩ (n := 0) (by decide +kernel) rfl rfl rfl (lv_room (Nat.le_of_ble_eq_true rfl)) d_m_readPermissions_99 (fun H locs hX hS => ?_)
            refine lv_imul hx hb d_m_readPermissions_102 ?_
            refine lv_iload hx hb d_m_readPermissions_103 (lv_at hl 4 rfl) ?_
            refine lv_iadd hx hb d_m_readPermissions_105 ?_
            by_cases hg106 : inbd ((4 * q99) + v4_86) 8 = true
            rotate_left; · rw [if_neg hg106] at h; cases h
            rw [if_pos hg106] at h
            refine m_ald_1 (k := 9) hx hb hC hX (by rfl) hg106 d_m_readPermissions_106 ?_
            refine lv_ishl hx hb d_m_readPermissions_107 ?_
            refine lv_iconst (v := 1) hx hb d_m_readPermissions_108 (by decide) ?_
            refine lv_isub hx hb d_m_readPermissions_109 ?_
            obtain ⟨a110, e110, h⟩ := bd_some h
            refine lt_I e110 ?_
            refine lv_istore (lv' := [(5, .int a110), (0, .ref (b + 262)), (1, .int x1), (2, .int (bI q3.2)), (3, .int (bI q10)), (4, .int v4_86)]) hx hb d_m_readPermissions_110 hl (by decide) rfl (fun ls hl => ?_)
            refine lv_iload_n hx hb d_m_readPermissions_112 rfl (lv_at hl 4 rfl) ?_
            have J132 : ∀ (s0_132 : Int32) (H : Heap) (locs : List Loc) (ls : Array Slot), hp D cA b ad (T, S_86, o) H → va_S (Ab b) s.heap H locs → lv_has ls 7 [(0, .ref (b + 262)), (1, .int x1), (2, .int (bI q3.2)), (3, .int (bI q10)), (4, .int v4_86), (5, .int a110)] → m_readPermissions_J132 (m_readPermissions_L86 x1 q3.2 q10 n86) x1 q3.2 q10 v4_86 a110 s0_132 S_86 = some rr → W p l e R s m args below meth c H locs 0 0 Q (F0 m 132 ls [.int s0_132]) := by
              intro s0_132 H locs ls  hX hS hl h
              rw [m_readPermissions_J132] at h
              refine lv_istore (lv' := [(6, .int s0_132), (0, .ref (b + 262)), (1, .int x1), (2, .int (bI q3.2)), (3, .int (bI q10)), (4, .int v4_86), (5, .int a110)]) hx hb d_m_readPermissions_132 hl (by decide) rfl (fun ls hl => ?_)
              refine lv_aload_n hx hb d_m_readPermissions_134 rfl (lv_at hl 1 rfl) ?_
              refine m_get_0_31 hx hb hts hown hC hX (by rfl) (hts _ t_1018) d_m_readPermissions_135 ?_
              refine lv_iconst (v := 4) hx hb d_m_readPermissions_138 (by decide) ?_
              refine lv_iload_n hx hb d_m_readPermissions_139 rfl (lv_at hl 2 rfl) ?_
              refine lv_imul hx hb d_m_readPermissions_140 ?_
              refine lv_iload hx hb d_m_readPermissions_141 (lv_at hl 5 rfl) ?_
              refine lv_iadd hx hb d_m_readPermissions_143 ?_
              refine lv_aload_n hx hb d_m_readPermissions_144 rfl (lv_at hl 1 rfl) ?_
              refine m_get_0_27 hx hb hts hown hC hX (by rfl) (hts _ t_1014) d_m_readPermissions_145 ?_
              refine lv_iload_n hx hb d_m_readPermissions_148 rfl (lv_at hl 2 rfl) ?_
              by_cases hg149 : inbd x1 48 = true
              rotate_left; · rw [if_neg hg149] at h; cases h
              rw [if_pos hg149] at h
              refine m_ald_1 (k := 16) hx hb hC hX (by rfl) hg149 d_m_readPermissions_149 ?_
              refine lv_iload hx hb d_m_readPermissions_150 (lv_at hl 5 rfl) ?_
              refine lv_ishr hx hb d_m_readPermissions_152 ?_
              refine lv_iconst (v := 1) hx hb d_m_readPermissions_153 (by decide) ?_
              refine lv_iand hx hb d_m_readPermissions_154 ?_
              refine lv_if_ne hx hb d_m_readPermissions_155 (tgt := 162) (by decide) (fun hc => ?_) (fun hc => ?_)
              · rw [if_neg hc] at h
                refine lv_iload_n hx hb d_m_readPermissions_162 rfl (lv_at hl 3 rfl) ?_
                refine lz_ifeq hx hb d_m_readPermissions_163 (tgt := 176) (by decide) (fun hc => ?_) (fun hc => ?_)
                · rw [if_neg hc] at h
                  refine lv_iload hx hb d_m_readPermissions_176 (lv_at hl 0 rfl) ?_
                  by_cases hg178 : inbd ((4 * x1) + v4_86) 192 = true
                  rotate_left; · rw [if_neg hg178] at h; cases h
                  rw [if_pos hg178] at h
                  refine m_ast_1 (k := 20) (v := s0_132) hx hb hC hX hS (by rfl) hg178 d_m_readPermissions_178 (fun H locs hX hS => ?_)
                  obtain ⟨S178, e178, h⟩ := bd_some h
                  rw [← e178] at hX
                  obtain ⟨a179, e179, h⟩ := bd_some h
                  refine lv_iinc (v := a179) (lv' := [(4, .int a179), (6, .int s0_132), (0, .ref (b + 262)), (1, .int x1), (2, .int (bI q3.2)), (3, .int (bI q10)), (5, .int a110)]) hx hb d_m_readPermissions_179 hl (k := 5) rfl e179.symm (by decide) rfl (fun ls hl => ?_)
                  refine lv_goto hx hb d_m_readPermissions_182 (tgt := 86) (by decide) ?_
                  exact ih86 a179 S178 H locs ls  hX hS (lv_sub hl [2, 3, 4, 5, 0] rfl) h
                · rw [if_pos hc] at h
                  refine lv_iload hx hb d_m_readPermissions_166 (lv_at hl 6 rfl) ?_
                  refine lv_iload hx hb d_m_readPermissions_168 (lv_at hl 0 rfl) ?_
                  refine lv_iconst (v := (-1)) hx hb d_m_readPermissions_170 (by decide) ?_
                  refine lv_ixor hx hb d_m_readPermissions_171 ?_
                  refine lv_iand hx hb d_m_readPermissions_172 ?_
                  refine lv_goto hx hb d_m_readPermissions_173 (tgt := 178) (by decide) ?_
                  by_cases hg178 : inbd ((4 * x1) + v4_86) 192 = true
                  rotate_left; · rw [if_neg hg178] at h; cases h
                  rw [if_pos hg178] at h
                  refine m_ast_1 (k := 20) (v := (a110 &&& (s0_132 ^^^ (-1)))) hx hb hC hX hS (by rfl) hg178 d_m_readPermissions_178 (fun H locs hX hS => ?_)
                  obtain ⟨S178, e178, h⟩ := bd_some h
                  rw [← e178] at hX
                  obtain ⟨a179, e179, h⟩ := bd_some h
                  refine lv_iinc (v := a179) (lv' := [(4, .int a179), (6, .int s0_132), (0, .ref (b + 262)), (1, .int x1), (2, .int (bI q3.2)), (3, .int (bI q10)), (5, .int a110)]) hx hb d_m_readPermissions_179 hl (k := 5) rfl e179.symm (by decide) rfl (fun ls hl => ?_)
                  refine lv_goto hx hb d_m_readPermissions_182 (tgt := 86) (by decide) ?_
                  exact ih86 a179 S178 H locs ls  hX hS (lv_sub hl [2, 3, 4, 5, 0] rfl) h
              · rw [if_pos hc] at h
                refine lv_iconst (v := 0) hx hb d_m_readPermissions_158 (by decide) ?_
                refine lv_goto hx hb d_m_readPermissions_159 (tgt := 178) (by decide) ?_
                by_cases hg178 : inbd ((4 * x1) + v4_86) 192 = true
                rotate_left; · rw [if_neg hg178] at h; cases h
                rw [if_pos hg178] at h
                refine m_ast_1 (k := 20) (v := 0) hx hb hC hX hS (by rfl) hg178 d_m_readPermissions_178 (fun H locs hX hS => ?_)
                obtain ⟨S178, e178, h⟩ := bd_some h
                rw [← e178] at hX
                obtain ⟨a179, e179, h⟩ := bd_some h
                refine lv_iinc (v := a179) (lv' := [(4, .int a179), (6, .int s0_132), (0, .ref (b + 262)), (1, .int x1), (2, .int (bI q3.2)), (3, .int (bI q10)), (5, .int a110)]) hx hb d_m_readPermissions_179 hl (k := 5) rfl e179.symm (by decide) rfl (fun ls hl => ?_)
                refine lv_goto hx hb d_m_readPermissions_182 (tgt := 86) (by decide) ?_
                exact ih86 a179 S178 H locs ls  hX hS (lv_sub hl [2, 3, 4, 5, 0] rfl) h
            refine lz_ifeq hx hb d_m_readPermissions_113 (tgt := 121) (by decide) (fun hc => ?_) (fun hc => ?_)
            · rw [if_neg hc] at h
              refine lv_aload_n hx hb d_m_readPermissions_121 rfl (lv_at hl 1 rfl) ?_
              refine m_get_0_31 hx hb hts hown hC hX (by rfl) (hts _ t_1018) d_m_readPermissions_122 ?_
              refine lv_iconst (v := 4) hx hb d_m_readPermissions_125 (by decide) ?_
              refine lv_iload_n hx hb d_m_readPermissions_126 rfl (lv_at hl 2 rfl) ?_
              refine lv_imul hx hb d_m_readPermissions_127 ?_
              refine lv_iload hx hb d_m_readPermissions_128 (lv_at hl 5 rfl) ?_
              refine lv_iadd hx hb d_m_readPermissions_130 ?_
              by_cases hg131 : inbd ((4 * x1) + v4_86) 192 = true
              rotate_left; · rw [if_neg hg131] at h; cases h
              rw [if_pos hg131] at h
              refine m_ald_1 (k := 20) hx hb hC hX (by rfl) hg131 d_m_readPermissions_131 ?_
              exact J132 (gI S_86 20 (txN ((4 * x1) + v4_86))) H locs ls  hX hS (lv_sub hl [1, 2, 3, 4, 5, 0] rfl) h
            · rw [if_pos hc] at h
              refine lv_iload hx hb d_m_readPermissions_116 (lv_at hl 0 rfl) ?_
              refine lv_goto hx hb d_m_readPermissions_118 (tgt := 132) (by decide) ?_
              exact J132 a110 H locs ls  hX hS (lv_sub hl [1, 2, 3, 4, 5, 0] rfl) h
      exact L86 600 0 q80 H locs ls  hX hS (lv_sub hl [3, 4, 2, 1, 0] rfl) h
    · rw [if_pos hc] at h
      refine lv_iconst (v := 1) hx hb d_m_readPermissions_34 (by decide) ?_
      refine lv_istore (lv' := [(4, .int 1), (3, .int (bI q10)), (2, .int (bI q3.2)), (0, .ref (b + 262)), (1, .int x1)]) hx hb d_m_readPermissions_35 hl (by decide) rfl (fun ls hl => ?_)
      have L37 : ∀ (n37 : Nat) (v4_37 : Int32) (S_37 : MS) (H : Heap) (locs : List Loc) (ls : Array Slot), hp D cA b ad (T, S_37, o) H → va_S (Ab b) s.heap H locs → lv_has ls 7 [(0, .ref (b + 262)), (1, .int x1), (2, .int (bI q3.2)), (3, .int (bI q10)), (4, .int v4_37)] → m_readPermissions_L37 x1 q3.2 q10 n37 v4_37 S_37 = some rr → W p l e R s m args below meth c H locs 0 0 Q (F0 m 37 ls []) := by
        intro n37; induction n37 with
        | zero => intro v4_37 S_37 H locs ls  hX hS hl h; rw [m_readPermissions_L37] at h; cases h
        | succ n37 ih37 =>
          intro v4_37 S_37 H locs ls  hX hS hl h
          rw [m_readPermissions_L37] at h
          refine lv_aload_n hx hb d_m_readPermissions_37 rfl (lv_at hl 0 rfl) ?_
          refine m_get_0_7 hx hb hts hown hC hX (by rfl) (hts _ t_994) d_m_readPermissions_38 ?_
          have J69 : ∀  (H : Heap) (locs : List Loc) (ls : Array Slot), hp D cA b ad (T, S_37, o) H → va_S (Ab b) s.heap H locs → lv_has ls 7 [(0, .ref (b + 262)), (1, .int x1), (2, .int (bI q3.2)), (3, .int (bI q10))] → m_readPermissions_J69 x1 q3.2 q10 S_37 = some rr → W p l e R s m args below meth c H locs 0 0 Q (F0 m 69 ls []) := by
            intro  H locs ls  hX hS hl h
            rw [m_readPermissions_J69] at h
            refine lv_aload_n hx hb d_m_readPermissions_69 rfl (lv_at hl 0 rfl) ?_
            refine lv_bipush (v := 125) hx hb d_m_readPermissions_70 (by decide) ?_
            obtain ⟨q72, hc72, h⟩ := Option.bind_eq_some_iff.mp h
            refine ck_V (As := [.int 125]) (rest := []) (st1 := []) (M_m_must  hc72) t_1213 t_1215 p_49 t_1216 t_13 hx hb hts hown hC hX hS (hrc_m0 hC hX (by rfl)) hml hl.1 ⟨by rw [hRf]; decide, by rw [hRl]; decide⟩ ⟨rfl, rfl⟩ (n := 1) (by decide +kernel) rfl rfl rfl (lv_room (Nat.le_of_ble_eq_true rfl)) d_m_readPermissions_72 (fun H locs hX hS => ?_)
            refine lv_goto hx hb d_m_readPermissions_75 (tgt := 83) (by decide) ?_
            refine lv_iconst (v := 0) hx hb d_m_readPermissions_83 (by decide) ?_
            refine lv_istore (lv' := [(4, .int 0), (0, .ref (b + 262)), (1, .int x1), (2, .int (bI q3.2)), (3, .int (bI q10))]) hx hb d_m_readPermissions_84 hl (by decide) rfl (fun ls hl => ?_)
            have L86 : ∀ (n86 : Nat) (v4_86 : Int32) (S_86 : MS) (H : Heap) (locs : List Loc) (ls : Array Slot), hp D cA b ad (T, S_86, o) H → va_S (Ab b) s.heap H locs → lv_has ls 7 [(0, .ref (b + 262)), (1, .int x1), (2, .int (bI q3.2)), (3, .int (bI q10)), (4, .int v4_86)] → m_readPermissions_L86 x1 q3.2 q10 n86 v4_86 S_86 = some rr → W p l e R s m args below meth c H locs 0 0 Q (F0 m 86 ls []) := by
              intro n86; induction n86 with
              | zero => intro v4_86 S_86 H locs ls  hX hS hl h; rw [m_readPermissions_L86] at h; cases h
              | succ n86 ih86 =>
                intro v4_86 S_86 H locs ls  hX hS hl h
                rw [m_readPermissions_L86] at h
                refine lv_iload hx hb d_m_readPermissions_86 (lv_at hl 4 rfl) ?_
                refine lv_iconst (v := 4) hx hb d_m_readPermissions_88 (by decide) ?_
                refine lv_icmp_ge hx hb d_m_readPermissions_89 (tgt := 185) (by decide) (fun hc => ?_) (fun hc => ?_)
                · rw [if_pos hc] at h
                  obtain rfl := Option.some.inj h
                  exact rt_v hQ hx hb hr hX hS hlk d_m_readPermissions_185
                · rw [if_neg hc] at h
                  refine lv_iconst (v := 1) hx hb d_m_readPermissions_92 (by decide) ?_
                  refine lv_aload_n hx hb d_m_readPermissions_93 rfl (lv_at hl 0 rfl) ?_
                  refine m_get_0_20 hx hb hts hown hC hX (by rfl) (hts _ t_1007) d_m_readPermissions_94 ?_
                  refine lv_iconst (v := 4) hx hb d_m_readPermissions_97 (by decide) ?_
                  refine lv_aload_n hx hb d_m_readPermissions_98 rfl (lv_at hl 0 rfl) ?_
                  obtain ⟨q99, hc99, h⟩ := Option.bind_eq_some_iff.mp h
                  refine ck_V (As := []) (rest := [.int 4, .ref (b + 271), .int 1]) (st1 := [.int q99, .int 4, .ref (b + 271), .int 1]) (M_m_own  hc99) t_1145 t_1147 p_38 t_1148 t_13 hx hb hts hown hC hX hS (hrc_m0 hC hX (by rfl)) hml hl.1 ⟨by rw [hRf]; decide, by rw [hRl]; decide⟩ ⟨rfl, rfl⟩ (n := 0) (by decide +kernel) rfl rfl rfl (lv_room (Nat.le_of_ble_eq_true rfl)) d_m_readPermissions_99 (fun H locs hX hS => ?_)
                  refine lv_imul hx hb d_m_readPermissions_102 ?_
                  refine lv_iload hx hb d_m_readPermissions_103 (lv_at hl 4 rfl) ?_
                  refine lv_iadd hx hb d_m_readPermissions_105 ?_
                  by_cases hg106 : inbd ((4 * q99) + v4_86) 8 = true
                  rotate_left; · rw [if_neg hg106] at h; cases h
                  rw [if_pos hg106] at h
                  refine m_ald_1 (k := 9) hx hb hC hX (by rfl) hg106 d_m_readPermissions_106 ?_
                  refine lv_ishl hx hb d_m_readPermissions_107 ?_
                  refine lv_iconst (v := 1) hx hb d_m_readPermissions_108 (by decide) ?_
                  refine lv_isub hx hb d_m_readPermissions_109 ?_
                  obtain ⟨a110, e110, h⟩ := bd_some h
                  refine lt_I e110 ?_
                  refine lv_istore (lv' := [(5, .int a110), (0, .ref (b + 262)), (1, .int x1), (2, .int (bI q3.2)), (3, .int (bI q10)), (4, .int v4_86)]) hx hb d_m_readPermissions_110 hl (by decide) rfl (fun ls hl => ?_)
                  refine lv_iload_n hx hb d_m_readPermissions_112 rfl (lv_at hl 4 rfl) ?_
                  have J132 : ∀ (s0_132 : Int32) (H : Heap) (locs : List Loc) (ls : Array Slot), hp D cA b ad (T, S_86, o) H → va_S (Ab b) s.heap H locs → lv_has ls 7 [(0, .ref (b + 262)), (1, .int x1), (2, .int (bI q3.2)), (3, .int (bI q10)), (4, .int v4_86), (5, .int a110)] → m_readPermissions_J132 (m_readPermissions_L86 x1 q3.2 q10 n86) x1 q3.2 q10 v4_86 a110 s0_132 S_86 = some rr → W p l e R s m args below meth c H locs 0 0 Q (F0 m 132 ls [.int s0_132]) := by
                    intro s0_132 H locs ls  hX hS hl h
                    rw [m_readPermissions_J132] at h
                    refine lv_istore (lv' := [(6, .int s0_132), (0, .ref (b + 262)), (1, .int x1), (2, .int (bI q3.2)), (3, .int (bI q10)), (4, .int v4_86), (5, .int a110)]) hx hb d_m_readPermissions_132 hl (by decide) rfl (fun ls hl => ?_)
                    refine lv_aload_n hx hb d_m_readPermissions_134 rfl (lv_at hl 1 rfl) ?_
                    refine m_get_0_31 hx hb hts hown hC hX (by rfl) (hts _ t_1018) d_m_readPermissions_135 ?_
                    refine lv_iconst (v := 4) hx hb d_m_readPermissions_138 (by decide) ?_
                    refine lv_iload_n hx hb d_m_readPermissions_139 rfl (lv_at hl 2 rfl) ?_
                    refine lv_imul hx hb d_m_readPermissions_140 ?_
                    refine lv_iload hx hb d_m_readPermissions_141 (lv_at hl 5 rfl) ?_
                    refine lv_iadd hx hb d_m_readPermissions_143 ?_
                    refine lv_aload_n hx hb d_m_readPermissions_144 rfl (lv_at hl 1 rfl) ?_
                    refine m_get_0_27 hx hb hts hown hC hX (by rfl) (hts _ t_1014) d_m_readPermissions_145 ?_
                    refine lv_iload_n hx hb d_m_readPermissions_148 rfl (lv_at hl 2 rfl) ?_
                    by_cases hg149 : inbd x1 48 = true
                    rotate_left; · rw [if_neg hg149] at h; cases h
                    rw [if_pos hg149] at h
                    refine m_ald_1 (k := 16) hx hb hC hX (by rfl) hg149 d_m_readPermissions_149 ?_
                    refine lv_iload hx hb d_m_readPermissions_150 (lv_at hl 5 rfl) ?_
                    refine lv_ishr hx hb d_m_readPermissions_152 ?_
                    refine lv_iconst (v := 1) hx hb d_m_readPermissions_153 (by decide) ?_
                    refine lv_iand hx hb d_m_readPermissions_154 ?_
                    refine lv_if_ne hx hb d_m_readPermissions_155 (tgt := 162) (by decide) (fun hc => ?_) (fun hc => ?_)
                    · rw [if_neg hc] at h
                      refine lv_iload_n hx hb d_m_readPermissions_162 rfl (lv_at hl 3 rfl) ?_
                      refine lz_ifeq hx hb d_m_readPermissions_163 (tgt := 176) (by decide) (fun hc => ?_) (fun hc => ?_)
                      · rw [if_neg hc] at h
                        refine lv_iload hx hb d_m_readPermissions_176 (lv_at hl 0 rfl) ?_
                        by_cases hg178 : inbd ((4 * x1) + v4_86) 192 = true
                        rotate_left; · rw [if_neg hg178] at h; cases h
                        rw [if_pos hg178] at h
                        refine m_ast_1 (k := 20) (v := s0_132) hx hb hC hX hS (by rfl) hg178 d_m_readPermissions_178 (fun H locs hX hS => ?_)
                        obtain ⟨S178, e178, h⟩ := bd_some h
                        rw [← e178] at hX
                        obtain ⟨a179, e179, h⟩ := bd_some h
                        refine lv_iinc (v := a179) (lv' := [(4, .int a179), (6, .int s0_132), (0, .ref (b + 262)), (1, .int x1), (2, .int (bI q3.2)), (3, .int (bI q10)), (5, .int a110)]) hx hb d_m_readPermissions_179 hl (k := 5) rfl e179.symm (by decide) rfl (fun ls hl => ?_)
                        refine lv_goto hx hb d_m_readPermissions_182 (tgt := 86) (by decide) ?_
                        exact ih86 a179 S178 H locs ls  hX hS (lv_sub hl [2, 3, 4, 5, 0] rfl) h
                      · rw [if_pos hc] at h
                        refine lv_iload hx hb d_m_readPermissions_166 (lv_at hl 6 rfl) ?_
                        refine lv_iload hx hb d_m_readPermissions_168 (lv_at hl 0 rfl) ?_
                        refine lv_iconst (v := (-1)) hx hb d_m_readPermissions_170 (by decide) ?_
                        refine lv_ixor hx hb d_m_readPermissions_171 ?_
                        refine lv_iand hx hb d_m_readPermissions_172 ?_
                        refine lv_goto hx hb d_m_readPermissions_173 (tgt := 178) (by decide) ?_
                        by_cases hg178 : inbd ((4 * x1) + v4_86) 192 = true
                        rotate_left; · rw [if_neg hg178] at h; cases h
                        rw [if_pos hg178] at h
                        refine m_ast_1 (k := 20) (v := (a110 &&& (s0_132 ^^^ (-1)))) hx hb hC hX hS (by rfl) hg178 d_m_readPermissions_178 (fun H locs hX hS => ?_)
                        obtain ⟨S178, e178, h⟩ := bd_some h
                        rw [← e178] at hX
                        obtain ⟨a179, e179, h⟩ := bd_some h
                        refine lv_iinc (v := a179) (lv' := [(4, .int a179), (6, .int s0_132), (0, .ref (b + 262)), (1, .int x1), (2, .int (bI q3.2)), (3, .int (bI q10)), (5, .int a110)]) hx hb d_m_readPermissions_179 hl (k := 5) rfl e179.symm (by decide) rfl (fun ls hl => ?_)
                        refine lv_goto hx hb d_m_readPermissions_182 (tgt := 86) (by decide) ?_
                        exact ih86 a179 S178 H locs ls  hX hS (lv_sub hl [2, 3, 4, 5, 0] rfl) h
                    · rw [if_pos hc] at h
                      refine lv_iconst (v := 0) hx hb d_m_readPermissions_158 (by decide) ?_
                      refine lv_goto hx hb d_m_readPermissions_159 (tgt := 178) (by decide) ?_
                      by_cases hg178 : inbd ((4 * x1) + v4_86) 192 = true
                      rotate_left; · rw [if_neg hg178] at h; cases h
                      rw [if_pos hg178] at h
                      refine m_ast_1 (k := 20) (v := 0) hx hb hC hX hS (by rfl) hg178 d_m_readPermissions_178 (fun H locs hX hS => ?_)
                      obtain ⟨S178, e178, h⟩ := bd_some h
                      rw [← e178] at hX
                      obtain ⟨a179, e179, h⟩ := bd_some h
                      refine lv_iinc (v := a179) (lv' := [(4, .int a179), (6, .int s0_132), (0, .ref (b + 262)), (1, .int x1), (2, .int (bI q3.2)), (3, .int (bI q10)), (5, .int a110)]) hx hb d_m_readPermissions_179 hl (k := 5) rfl e179.symm (by decide) rfl (fun ls hl => ?_)
                      refine lv_goto hx hb d_m_readPermissions_182 (tgt := 86) (by decide) ?_
                      exact ih86 a179 S178 H locs ls  hX hS (lv_sub hl [2, 3, 4, 5, 0] rfl) h
                  refine lz_ifeq hx hb d_m_readPermissions_113 (tgt := 121) (by decide) (fun hc => ?_) (fun hc => ?_)
                  · rw [if_neg hc] at h
                    refine lv_aload_n hx hb d_m_readPermissions_121 rfl (lv_at hl 1 rfl) ?_
                    refine m_get_0_31 hx hb hts hown hC hX (by rfl) (hts _ t_1018) d_m_readPermissions_122 ?_
                    refine lv_iconst (v := 4) hx hb d_m_readPermissions_125 (by decide) ?_
                    refine lv_iload_n hx hb d_m_readPermissions_126 rfl (lv_at hl 2 rfl) ?_
                    refine lv_imul hx hb d_m_readPermissions_127 ?_
                    refine lv_iload hx hb d_m_readPermissions_128 (lv_at hl 5 rfl) ?_
                    refine lv_iadd hx hb d_m_readPermissions_130 ?_
                    by_cases hg131 : inbd ((4 * x1) + v4_86) 192 = true
                    rotate_left; · rw [if_neg hg131] at h; cases h
                    rw [if_pos hg131] at h
                    refine m_ald_1 (k := 20) hx hb hC hX (by rfl) hg131 d_m_readPermissions_131 ?_
                    exact J132 (gI S_86 20 (txN ((4 * x1) + v4_86))) H locs ls  hX hS (lv_sub hl [1, 2, 3, 4, 5, 0] rfl) h
                  · rw [if_pos hc] at h
                    refine lv_iload hx hb d_m_readPermissions_116 (lv_at hl 0 rfl) ?_
                    refine lv_goto hx hb d_m_readPermissions_118 (tgt := 132) (by decide) ?_
                    exact J132 a110 H locs ls  hX hS (lv_sub hl [1, 2, 3, 4, 5, 0] rfl) h
            exact L86 600 0 q72 H locs ls  hX hS (lv_sub hl [1, 2, 3, 4, 0] rfl) h
          refine lv_if_ne hx hb d_m_readPermissions_41 (tgt := 69) (by decide) (fun hc => ?_) (fun hc => ?_)
          · rw [if_neg hc] at h
            exact J69  H locs ls  hX hS (lv_sub hl [0, 1, 2, 3] rfl) h
          · rw [if_pos hc] at h
            refine lv_iload hx hb d_m_readPermissions_44 (lv_at hl 4 rfl) ?_
            have J58 : ∀  (H : Heap) (locs : List Loc) (ls : Array Slot), hp D cA b ad (T, S_37, o) H → va_S (Ab b) s.heap H locs → lv_has ls 7 [(0, .ref (b + 262)), (1, .int x1), (2, .int (bI q3.2)), (3, .int (bI q10))] → m_readPermissions_J58 (m_readPermissions_L37 x1 q3.2 q10 n37) x1 q3.2 q10 S_37 = some rr → W p l e R s m args below meth c H locs 0 0 Q (F0 m 58 ls []) := by
              intro  H locs ls  hX hS hl h
              rw [m_readPermissions_J58] at h
              refine lv_iconst (v := 0) hx hb d_m_readPermissions_58 (by decide) ?_
              refine lv_istore (lv' := [(4, .int 0), (0, .ref (b + 262)), (1, .int x1), (2, .int (bI q3.2)), (3, .int (bI q10))]) hx hb d_m_readPermissions_59 hl (by decide) rfl (fun ls hl => ?_)
              refine lv_aload_n hx hb d_m_readPermissions_61 rfl (lv_at hl 1 rfl) ?_
              refine lv_iload_n hx hb d_m_readPermissions_62 rfl (lv_at hl 2 rfl) ?_
              obtain ⟨q63, hc63, h⟩ := Option.bind_eq_some_iff.mp h
              refine ck_V (As := [.int x1]) (rest := []) (st1 := []) (M_m_readPermission  hc63) t_1230 t_1232 p_53 t_1233 t_13 hx hb hts hown hC hX hS (hrc_m0 hC hX (by rfl)) hml hl.1 ⟨by rw [hRf]; decide, by rw [hRl]; decide⟩ ⟨rfl, rfl⟩ (n := 1) (by decide +kernel) rfl rfl rfl (lv_room (Nat.le_of_ble_eq_true rfl)) d_m_readPermissions_63 (fun H locs hX hS => ?_)
              refine lv_goto hx hb d_m_readPermissions_66 (tgt := 37) (by decide) ?_
              exact ih37 0 q63 H locs ls  hX hS (lv_sub hl [1, 2, 3, 4, 0] rfl) h
            refine lv_if_ne hx hb d_m_readPermissions_46 (tgt := 58) (by decide) (fun hc => ?_) (fun hc => ?_)
            · rw [if_neg hc] at h
              exact J58  H locs ls  hX hS (lv_sub hl [0, 1, 2, 3] rfl) h
            · rw [if_pos hc] at h
              refine lv_aload_n hx hb d_m_readPermissions_49 rfl (lv_at hl 0 rfl) ?_
              refine lv_bipush (v := 125) hx hb d_m_readPermissions_50 (by decide) ?_
              obtain ⟨q52, hc52, h⟩ := Option.bind_eq_some_iff.mp h
              refine ck_V (As := [.int 125]) (rest := []) (st1 := [.int (bI q52)]) (M_m_is  hc52) t_1192 t_1194 p_45 t_1195 t_13 hx hb hts hown hC hX hS (hrc_m0 hC hX (by rfl)) hml hl.1 ⟨by rw [hRf]; decide, by rw [hRl]; decide⟩ ⟨rfl, rfl⟩ (n := 1) (by decide +kernel) rfl rfl rfl (lv_room (Nat.le_of_ble_eq_true rfl)) d_m_readPermissions_52 (fun H locs hX hS => ?_)
              refine lz_ifne hx hb d_m_readPermissions_55 (tgt := 69) (by decide) (fun hc => ?_) (fun hc => ?_)
              · rw [if_pos hc] at h
                exact J69  H locs ls  hX hS (lv_sub hl [0, 1, 2, 3] rfl) h
              · rw [if_neg hc] at h
                exact J58  H locs ls  hX hS (lv_sub hl [0, 1, 2, 3] rfl) h
      exact L37 600 1 q28.1 H locs ls  hX hS (lv_sub hl [3, 4, 2, 1, 0] rfl) h
  · rw [if_pos hc] at h
    refine lv_aload_n hx hb d_m_readPermissions_18 rfl (lv_at hl 2 rfl) ?_
    obtain ⟨q19, hc19, h⟩ := Option.bind_eq_some_iff.mp h
    refine ck_V (As := []) (rest := []) (st1 := []) (M_m_next  hc19) t_1149 t_1151 p_39 t_1152 t_13 hx hb hts hown hC hX hS (hrc_m0 hC hX (by rfl)) hml hl.1 ⟨by rw [hRf]; decide, by rw [hRl]; decide⟩ ⟨rfl, rfl⟩ (n := 0) (by decide +kernel) rfl rfl rfl (lv_room (Nat.le_of_ble_eq_true rfl)) d_m_readPermissions_19 (fun H locs hX hS => ?_)
    refine lv_goto hx hb d_m_readPermissions_22 (tgt := 83) (by decide) ?_
    refine lv_iconst (v := 0) hx hb d_m_readPermissions_83 (by decide) ?_
    refine lv_istore (lv' := [(4, .int 0), (3, .int (bI q10)), (2, .int (bI q3.2)), (0, .ref (b + 262)), (1, .int x1)]) hx hb d_m_readPermissions_84 hl (by decide) rfl (fun ls hl => ?_)
    have L86 : ∀ (n86 : Nat) (v4_86 : Int32) (S_86 : MS) (H : Heap) (locs : List Loc) (ls : Array Slot), hp D cA b ad (T, S_86, o) H → va_S (Ab b) s.heap H locs → lv_has ls 7 [(0, .ref (b + 262)), (1, .int x1), (2, .int (bI q3.2)), (3, .int (bI q10)), (4, .int v4_86)] → m_readPermissions_L86 x1 q3.2 q10 n86 v4_86 S_86 = some rr → W p l e R s m args below meth c H locs 0 0 Q (F0 m 86 ls []) := by
      intro n86; induction n86 with
      | zero => intro v4_86 S_86 H locs ls  hX hS hl h; rw [m_readPermissions_L86] at h; cases h
      | succ n86 ih86 =>
        intro v4_86 S_86 H locs ls  hX hS hl h
        rw [m_readPermissions_L86] at h
        refine lv_iload hx hb d_m_readPermissions_86 (lv_at hl 4 rfl) ?_
        refine lv_iconst (v := 4) hx hb d_m_readPermissions_88 (by decide) ?_
        refine lv_icmp_ge hx hb d_m_readPermissions_89 (tgt := 185) (by decide) (fun hc => ?_) (fun hc => ?_)
        · rw [if_pos hc] at h
          obtain rfl := Option.some.inj h
          exact rt_v hQ hx hb hr hX hS hlk d_m_readPermissions_185
        · rw [if_neg hc] at h
          refine lv_iconst (v := 1) hx hb d_m_readPermissions_92 (by decide) ?_
          refine lv_aload_n hx hb d_m_readPermissions_93 rfl (lv_at hl 0 rfl) ?_
          refine m_get_0_20 hx hb hts hown hC hX (by rfl) (hts _ t_1007) d_m_readPermissions_94 ?_
          refine lv_iconst (v := 4) hx hb d_m_readPermissions_97 (by decide) ?_
          refine lv_aload_n hx hb d_m_readPermissions_98 rfl (lv_at hl 0 rfl) ?_
          obtain ⟨q99, hc99, h⟩ := Option.bind_eq_some_iff.mp h
          refine ck_V (As := []) (rest := [.int 4, .ref (b + 271), .int 1]) (st1 := [.int q99, .int 4, .ref (b + 271), .int 1]) (M_m_own  hc99) t_1145 t_1147 p_38 t_1148 t_13 hx hb hts hown hC hX hS (hrc_m0 hC hX (by rfl)) hml hl.1 ⟨by rw [hRf]; decide, by rw [hRl]; decide⟩ ⟨rfl, rfl⟩ (n := 0) (by decide +kernel) rfl rfl rfl (lv_room (Nat.le_of_ble_eq_true rfl)) d_m_readPermissions_99 (fun H locs hX hS => ?_)
          refine lv_imul hx hb d_m_readPermissions_102 ?_
          refine lv_iload hx hb d_m_readPermissions_103 (lv_at hl 4 rfl) ?_
          refine lv_iadd hx hb d_m_readPermissions_105 ?_
          by_cases hg106 : inbd ((4 * q99) + v4_86) 8 = true
          rotate_left; · rw [if_neg hg106] at h; cases h
          rw [if_pos hg106] at h
          refine m_ald_1 (k := 9) hx hb hC hX (by rfl) hg106 d_m_readPermissions_106 ?_
          refine lv_ishl hx hb d_m_readPermissions_107 ?_
          refine lv_iconst (v := 1) hx hb d_m_readPermissions_108 (by decide) ?_
          refine lv_isub hx hb d_m_readPermissions_109 ?_
          obtain ⟨a110, e110, h⟩ := bd_some h
          refine lt_I e110 ?_
          refine lv_istore (lv' := [(5, .int a110), (0, .ref (b + 262)), (1, .int x1), (2, .int (bI q3.2)), (3, .int (bI q10)), (4, .int v4_86)]) hx hb d_m_readPermissions_110 hl (by decide) rfl (fun ls hl => ?_)
          refine lv_iload_n hx hb d_m_readPermissions_112 rfl (lv_at hl 4 rfl) ?_
          have J132 : ∀ (s0_132 : Int32) (H : Heap) (locs : List Loc) (ls : Array Slot), hp D cA b ad (T, S_86, o) H → va_S (Ab b) s.heap H locs → lv_has ls 7 [(0, .ref (b + 262)), (1, .int x1), (2, .int (bI q3.2)), (3, .int (bI q10)), (4, .int v4_86), (5, .int a110)] → m_readPermissions_J132 (m_readPermissions_L86 x1 q3.2 q10 n86) x1 q3.2 q10 v4_86 a110 s0_132 S_86 = some rr → W p l e R s m args below meth c H locs 0 0 Q (F0 m 132 ls [.int s0_132]) := by
            intro s0_132 H locs ls  hX hS hl h
            rw [m_readPermissions_J132] at h
            refine lv_istore (lv' := [(6, .int s0_132), (0, .ref (b + 262)), (1, .int x1), (2, .int (bI q3.2)), (3, .int (bI q10)), (4, .int v4_86), (5, .int a110)]) hx hb d_m_readPermissions_132 hl (by decide) rfl (fun ls hl => ?_)
            refine lv_aload_n hx hb d_m_readPermissions_134 rfl (lv_at hl 1 rfl) ?_
            refine m_get_0_31 hx hb hts hown hC hX (by rfl) (hts _ t_1018) d_m_readPermissions_135 ?_
            refine lv_iconst (v := 4) hx hb d_m_readPermissions_138 (by decide) ?_
            refine lv_iload_n hx hb d_m_readPermissions_139 rfl (lv_at hl 2 rfl) ?_
            refine lv_imul hx hb d_m_readPermissions_140 ?_
            refine lv_iload hx hb d_m_readPermissions_141 (lv_at hl 5 rfl) ?_
            refine lv_iadd hx hb d_m_readPermissions_143 ?_
            refine lv_aload_n hx hb d_m_readPermissions_144 rfl (lv_at hl 1 rfl) ?_
            refine m_get_0_27 hx hb hts hown hC hX (by rfl) (hts _ t_1014) d_m_readPermissions_145 ?_
            refine lv_iload_n hx hb d_m_readPermissions_148 rfl (lv_at hl 2 rfl) ?_
            by_cases hg149 : inbd x1 48 = true
            rotate_left; · rw [if_neg hg149] at h; cases h
            rw [if_pos hg149] at h
            refine m_ald_1 (k := 16) hx hb hC hX (by rfl) hg149 d_m_readPermissions_149 ?_
            refine lv_iload hx hb d_m_readPermissions_150 (lv_at hl 5 rfl) ?_
            refine lv_ishr hx hb d_m_readPermissions_152 ?_
            refine lv_iconst (v := 1) hx hb d_m_readPermissions_153 (by decide) ?_
            refine lv_iand hx hb d_m_readPermissions_154 ?_
            refine lv_if_ne hx hb d_m_readPermissions_155 (tgt := 162) (by decide) (fun hc => ?_) (fun hc => ?_)
            · rw [if_neg hc] at h
              refine lv_iload_n hx hb d_m_readPermissions_162 rfl (lv_at hl 3 rfl) ?_
              refine lz_ifeq hx hb d_m_readPermissions_163 (tgt := 176) (by decide) (fun hc => ?_) (fun hc => ?_)
              · rw [if_neg hc] at h
                refine lv_iload hx hb d_m_readPermissions_176 (lv_at hl 0 rfl) ?_
                by_cases hg178 : inbd ((4 * x1) + v4_86) 192 = true
                rotate_left; · rw [if_neg hg178] at h; cases h
                rw [if_pos hg178] at h
                refine m_ast_1 (k := 20) (v := s0_132) hx hb hC hX hS (by rfl) hg178 d_m_readPermissions_178 (fun H locs hX hS => ?_)
                obtain ⟨S178, e178, h⟩ := bd_some h
                rw [← e178] at hX
                obtain ⟨a179, e179, h⟩ := bd_some h
                refine lv_iinc (v := a179) (lv' := [(4, .int a179), (6, .int s0_132), (0, .ref (b + 262)), (1, .int x1), (2, .int (bI q3.2)), (3, .int (bI q10)), (5, .int a110)]) hx hb d_m_readPermissions_179 hl (k := 5) rfl e179.symm (by decide) rfl (fun ls hl => ?_)
                refine lv_goto hx hb d_m_readPermissions_182 (tgt := 86) (by decide) ?_
                exact ih86 a179 S178 H locs ls  hX hS (lv_sub hl [2, 3, 4, 5, 0] rfl) h
              · rw [if_pos hc] at h
                refine lv_iload hx hb d_m_readPermissions_166 (lv_at hl 6 rfl) ?_
                refine lv_iload hx hb d_m_readPermissions_168 (lv_at hl 0 rfl) ?_
                refine lv_iconst (v := (-1)) hx hb d_m_readPermissions_170 (by decide) ?_
                refine lv_ixor hx hb d_m_readPermissions_171 ?_
                refine lv_iand hx hb d_m_readPermissions_172 ?_
                refine lv_goto hx hb d_m_readPermissions_173 (tgt := 178) (by decide) ?_
                by_cases hg178 : inbd ((4 * x1) + v4_86) 192 = true
                rotate_left; · rw [if_neg hg178] at h; cases h
                rw [if_pos hg178] at h
                refine m_ast_1 (k := 20) (v := (a110 &&& (s0_132 ^^^ (-1)))) hx hb hC hX hS (by rfl) hg178 d_m_readPermissions_178 (fun H locs hX hS => ?_)
                obtain ⟨S178, e178, h⟩ := bd_some h
                rw [← e178] at hX
                obtain ⟨a179, e179, h⟩ := bd_some h
                refine lv_iinc (v := a179) (lv' := [(4, .int a179), (6, .int s0_132), (0, .ref (b + 262)), (1, .int x1), (2, .int (bI q3.2)), (3, .int (bI q10)), (5, .int a110)]) hx hb d_m_readPermissions_179 hl (k := 5) rfl e179.symm (by decide) rfl (fun ls hl => ?_)
                refine lv_goto hx hb d_m_readPermissions_182 (tgt := 86) (by decide) ?_
                exact ih86 a179 S178 H locs ls  hX hS (lv_sub hl [2, 3, 4, 5, 0] rfl) h
            · rw [if_pos hc] at h
              refine lv_iconst (v := 0) hx hb d_m_readPermissions_158 (by decide) ?_
              refine lv_goto hx hb d_m_readPermissions_159 (tgt := 178) (by decide) ?_
              by_cases hg178 : inbd ((4 * x1) + v4_86) 192 = true
              rotate_left; · rw [if_neg hg178] at h; cases h
              rw [if_pos hg178] at h
              refine m_ast_1 (k := 20) (v := 0) hx hb hC hX hS (by rfl) hg178 d_m_readPermissions_178 (fun H locs hX hS => ?_)
              obtain ⟨S178, e178, h⟩ := bd_some h
              rw [← e178] at hX
              obtain ⟨a179, e179, h⟩ := bd_some h
              refine lv_iinc (v := a179) (lv' := [(4, .int a179), (6, .int s0_132), (0, .ref (b + 262)), (1, .int x1), (2, .int (bI q3.2)), (3, .int (bI q10)), (5, .int a110)]) hx hb d_m_readPermissions_179 hl (k := 5) rfl e179.symm (by decide) rfl (fun ls hl => ?_)
              refine lv_goto hx hb d_m_readPermissions_182 (tgt := 86) (by decide) ?_
              exact ih86 a179 S178 H locs ls  hX hS (lv_sub hl [2, 3, 4, 5, 0] rfl) h
          refine lz_ifeq hx hb d_m_readPermissions_113 (tgt := 121) (by decide) (fun hc => ?_) (fun hc => ?_)
          · rw [if_neg hc] at h
            refine lv_aload_n hx hb d_m_readPermissions_121 rfl (lv_at hl 1 rfl) ?_
            refine m_get_0_31 hx hb hts hown hC hX (by rfl) (hts _ t_1018) d_m_readPermissions_122 ?_
            refine lv_iconst (v := 4) hx hb d_m_readPermissions_125 (by decide) ?_
            refine lv_iload_n hx hb d_m_readPermissions_126 rfl (lv_at hl 2 rfl) ?_
            refine lv_imul hx hb d_m_readPermissions_127 ?_
            refine lv_iload hx hb d_m_readPermissions_128 (lv_at hl 5 rfl) ?_
            refine lv_iadd hx hb d_m_readPermissions_130 ?_
            by_cases hg131 : inbd ((4 * x1) + v4_86) 192 = true
            rotate_left; · rw [if_neg hg131] at h; cases h
            rw [if_pos hg131] at h
            refine m_ald_1 (k := 20) hx hb hC hX (by rfl) hg131 d_m_readPermissions_131 ?_
            exact J132 (gI S_86 20 (txN ((4 * x1) + v4_86))) H locs ls  hX hS (lv_sub hl [1, 2, 3, 4, 5, 0] rfl) h
          · rw [if_pos hc] at h
            refine lv_iload hx hb d_m_readPermissions_116 (lv_at hl 0 rfl) ?_
            refine lv_goto hx hb d_m_readPermissions_118 (tgt := 132) (by decide) ?_
            exact J132 a110 H locs ls  hX hS (lv_sub hl [1, 2, 3, 4, 5, 0] rfl) h
    exact L86 600 0 q19 H locs ls  hX hS (lv_sub hl [3, 4, 2, 1, 0] rfl) h
abbrev y_m_readRule : MethodName := ({ cls := "TypeGuardModel", name := "readRule", desc := "(IIZ)V" } : Jvm.MethodName)
theorem d_m_readRule_0 : decode prog_14_method_27_code 0 = .ok (.aload_n 0, 1) := by decide +kernel
theorem d_m_readRule_1 : decode prog_14_method_27_code 1 = .ok (.invokevirtual 189, 3) := by decide +kernel
theorem d_m_readRule_4 : decode prog_14_method_27_code 4 = .ok (.istore 4, 2) := by decide +kernel
theorem d_m_readRule_6 : decode prog_14_method_27_code 6 = .ok (.aload_n 0, 1) := by decide +kernel
theorem d_m_readRule_7 : decode prog_14_method_27_code 7 = .ok (.getfield 17, 3) := by decide +kernel
theorem d_m_readRule_10 : decode prog_14_method_27_code 10 = .ok (.iconst 5, 1) := by decide +kernel
theorem d_m_readRule_11 : decode prog_14_method_27_code 11 = .ok (.iload 4, 2) := by decide +kernel
theorem d_m_readRule_13 : decode prog_14_method_27_code 13 = .ok (.imul, 1) := by decide +kernel
theorem d_m_readRule_14 : decode prog_14_method_27_code 14 = .ok (.iconst 4, 1) := by decide +kernel
theorem d_m_readRule_15 : decode prog_14_method_27_code 15 = .ok (.iadd, 1) := by decide +kernel
theorem d_m_readRule_16 : decode prog_14_method_27_code 16 = .ok (.iaload, 1) := by decide +kernel
theorem d_m_readRule_17 : decode prog_14_method_27_code 17 = .ok (.bipush 24, 2) := by decide +kernel
theorem d_m_readRule_19 : decode prog_14_method_27_code 19 = .ok (.if_icmp .ne 8, 3) := by decide +kernel
theorem d_m_readRule_22 : decode prog_14_method_27_code 22 = .ok (.aload_n 0, 1) := by decide +kernel
theorem d_m_readRule_23 : decode prog_14_method_27_code 23 = .ok (.iconst 4, 1) := by decide +kernel
theorem d_m_readRule_24 : decode prog_14_method_27_code 24 = .ok (.invokevirtual 141, 3) := by decide +kernel
theorem d_m_readRule_27 : decode prog_14_method_27_code 27 = .ok (.aload_n 0, 1) := by decide +kernel
theorem d_m_readRule_28 : decode prog_14_method_27_code 28 = .ok (.getfield 109, 3) := by decide +kernel
theorem d_m_readRule_31 : decode prog_14_method_27_code 31 = .ok (.ifCond .eq 4, 3) := by decide +kernel
theorem d_m_readRule_34 : decode prog_14_method_27_code 34 = .ok (.return_, 1) := by decide +kernel
theorem d_m_readRule_35 : decode prog_14_method_27_code 35 = .ok (.bipush 24, 2) := by decide +kernel
theorem d_m_readRule_37 : decode prog_14_method_27_code 37 = .ok (.iload 4, 2) := by decide +kernel
theorem d_m_readRule_39 : decode prog_14_method_27_code 39 = .ok (.imul, 1) := by decide +kernel
theorem d_m_readRule_40 : decode prog_14_method_27_code 40 = .ok (.aload_n 0, 1) := by decide +kernel
theorem d_m_readRule_41 : decode prog_14_method_27_code 41 = .ok (.getfield 17, 3) := by decide +kernel
theorem d_m_readRule_44 : decode prog_14_method_27_code 44 = .ok (.iconst 5, 1) := by decide +kernel
theorem d_m_readRule_45 : decode prog_14_method_27_code 45 = .ok (.iload 4, 2) := by decide +kernel
theorem d_m_readRule_47 : decode prog_14_method_27_code 47 = .ok (.imul, 1) := by decide +kernel
theorem d_m_readRule_48 : decode prog_14_method_27_code 48 = .ok (.iconst 4, 1) := by decide +kernel
theorem d_m_readRule_49 : decode prog_14_method_27_code 49 = .ok (.iadd, 1) := by decide +kernel
theorem d_m_readRule_50 : decode prog_14_method_27_code 50 = .ok (.iaload, 1) := by decide +kernel
theorem d_m_readRule_51 : decode prog_14_method_27_code 51 = .ok (.iadd, 1) := by decide +kernel
theorem d_m_readRule_52 : decode prog_14_method_27_code 52 = .ok (.istore 5, 2) := by decide +kernel
theorem d_m_readRule_54 : decode prog_14_method_27_code 54 = .ok (.aload_n 0, 1) := by decide +kernel
theorem d_m_readRule_55 : decode prog_14_method_27_code 55 = .ok (.getfield 17, 3) := by decide +kernel
theorem d_m_readRule_58 : decode prog_14_method_27_code 58 = .ok (.iconst 5, 1) := by decide +kernel
theorem d_m_readRule_59 : decode prog_14_method_27_code 59 = .ok (.iload 4, 2) := by decide +kernel
theorem d_m_readRule_61 : decode prog_14_method_27_code 61 = .ok (.imul, 1) := by decide +kernel
theorem d_m_readRule_62 : decode prog_14_method_27_code 62 = .ok (.iconst 4, 1) := by decide +kernel
theorem d_m_readRule_63 : decode prog_14_method_27_code 63 = .ok (.iadd, 1) := by decide +kernel
theorem d_m_readRule_64 : decode prog_14_method_27_code 64 = .ok (.dup2, 1) := by decide +kernel
theorem d_m_readRule_65 : decode prog_14_method_27_code 65 = .ok (.iaload, 1) := by decide +kernel
theorem d_m_readRule_66 : decode prog_14_method_27_code 66 = .ok (.iconst 1, 1) := by decide +kernel
theorem d_m_readRule_67 : decode prog_14_method_27_code 67 = .ok (.iadd, 1) := by decide +kernel
theorem d_m_readRule_68 : decode prog_14_method_27_code 68 = .ok (.iastore, 1) := by decide +kernel
theorem d_m_readRule_69 : decode prog_14_method_27_code 69 = .ok (.aload_n 0, 1) := by decide +kernel
theorem d_m_readRule_70 : decode prog_14_method_27_code 70 = .ok (.getfield 46, 3) := by decide +kernel
theorem d_m_readRule_73 : decode prog_14_method_27_code 73 = .ok (.iload 5, 2) := by decide +kernel
theorem d_m_readRule_75 : decode prog_14_method_27_code 75 = .ok (.iload_n 1, 1) := by decide +kernel
theorem d_m_readRule_76 : decode prog_14_method_27_code 76 = .ok (.iastore, 1) := by decide +kernel
theorem d_m_readRule_77 : decode prog_14_method_27_code 77 = .ok (.aload_n 0, 1) := by decide +kernel
theorem d_m_readRule_78 : decode prog_14_method_27_code 78 = .ok (.getfield 49, 3) := by decide +kernel
theorem d_m_readRule_81 : decode prog_14_method_27_code 81 = .ok (.iload 5, 2) := by decide +kernel
theorem d_m_readRule_83 : decode prog_14_method_27_code 83 = .ok (.aload_n 0, 1) := by decide +kernel
theorem d_m_readRule_84 : decode prog_14_method_27_code 84 = .ok (.getfield 112, 3) := by decide +kernel
theorem d_m_readRule_87 : decode prog_14_method_27_code 87 = .ok (.iastore, 1) := by decide +kernel
theorem d_m_readRule_88 : decode prog_14_method_27_code 88 = .ok (.aload_n 0, 1) := by decide +kernel
theorem d_m_readRule_89 : decode prog_14_method_27_code 89 = .ok (.getfield 52, 3) := by decide +kernel
theorem d_m_readRule_92 : decode prog_14_method_27_code 92 = .ok (.iload 5, 2) := by decide +kernel
theorem d_m_readRule_94 : decode prog_14_method_27_code 94 = .ok (.iload_n 2, 1) := by decide +kernel
theorem d_m_readRule_95 : decode prog_14_method_27_code 95 = .ok (.iastore, 1) := by decide +kernel
theorem d_m_readRule_96 : decode prog_14_method_27_code 96 = .ok (.aload_n 0, 1) := by decide +kernel
theorem d_m_readRule_97 : decode prog_14_method_27_code 97 = .ok (.getfield 67, 3) := by decide +kernel
theorem d_m_readRule_100 : decode prog_14_method_27_code 100 = .ok (.iload 5, 2) := by decide +kernel
theorem d_m_readRule_102 : decode prog_14_method_27_code 102 = .ok (.iload_n 3, 1) := by decide +kernel
theorem d_m_readRule_103 : decode prog_14_method_27_code 103 = .ok (.bastore, 1) := by decide +kernel
theorem d_m_readRule_104 : decode prog_14_method_27_code 104 = .ok (.aload_n 0, 1) := by decide +kernel
theorem d_m_readRule_105 : decode prog_14_method_27_code 105 = .ok (.getfield 61, 3) := by decide +kernel
theorem d_m_readRule_108 : decode prog_14_method_27_code 108 = .ok (.iload 5, 2) := by decide +kernel
theorem d_m_readRule_110 : decode prog_14_method_27_code 110 = .ok (.iconst 0, 1) := by decide +kernel
theorem d_m_readRule_111 : decode prog_14_method_27_code 111 = .ok (.iastore, 1) := by decide +kernel
theorem d_m_readRule_112 : decode prog_14_method_27_code 112 = .ok (.aload_n 0, 1) := by decide +kernel
theorem d_m_readRule_113 : decode prog_14_method_27_code 113 = .ok (.getfield 64, 3) := by decide +kernel
theorem d_m_readRule_116 : decode prog_14_method_27_code 116 = .ok (.iload 5, 2) := by decide +kernel
theorem d_m_readRule_118 : decode prog_14_method_27_code 118 = .ok (.iconst (-1), 1) := by decide +kernel
theorem d_m_readRule_119 : decode prog_14_method_27_code 119 = .ok (.iastore, 1) := by decide +kernel
theorem d_m_readRule_120 : decode prog_14_method_27_code 120 = .ok (.iconst 0, 1) := by decide +kernel
theorem d_m_readRule_121 : decode prog_14_method_27_code 121 = .ok (.istore 6, 2) := by decide +kernel
theorem d_m_readRule_123 : decode prog_14_method_27_code 123 = .ok (.iload 6, 2) := by decide +kernel
theorem d_m_readRule_125 : decode prog_14_method_27_code 125 = .ok (.iconst 4, 1) := by decide +kernel
theorem d_m_readRule_126 : decode prog_14_method_27_code 126 = .ok (.if_icmp .ge 22, 3) := by decide +kernel
theorem d_m_readRule_129 : decode prog_14_method_27_code 129 = .ok (.aload_n 0, 1) := by decide +kernel
theorem d_m_readRule_130 : decode prog_14_method_27_code 130 = .ok (.getfield 73, 3) := by decide +kernel
theorem d_m_readRule_133 : decode prog_14_method_27_code 133 = .ok (.iconst 4, 1) := by decide +kernel
theorem d_m_readRule_134 : decode prog_14_method_27_code 134 = .ok (.iload 5, 2) := by decide +kernel
theorem d_m_readRule_136 : decode prog_14_method_27_code 136 = .ok (.imul, 1) := by decide +kernel
theorem d_m_readRule_137 : decode prog_14_method_27_code 137 = .ok (.iload 6, 2) := by decide +kernel
theorem d_m_readRule_139 : decode prog_14_method_27_code 139 = .ok (.iadd, 1) := by decide +kernel
theorem d_m_readRule_140 : decode prog_14_method_27_code 140 = .ok (.iconst 0, 1) := by decide +kernel
theorem d_m_readRule_141 : decode prog_14_method_27_code 141 = .ok (.iastore, 1) := by decide +kernel
theorem d_m_readRule_142 : decode prog_14_method_27_code 142 = .ok (.iinc 6 1, 3) := by decide +kernel
theorem d_m_readRule_145 : decode prog_14_method_27_code 145 = .ok (.goto (-22), 3) := by decide +kernel
theorem d_m_readRule_148 : decode prog_14_method_27_code 148 = .ok (.aload_n 0, 1) := by decide +kernel
theorem d_m_readRule_149 : decode prog_14_method_27_code 149 = .ok (.invokevirtual 148, 3) := by decide +kernel
theorem d_m_readRule_152 : decode prog_14_method_27_code 152 = .ok (.aload_n 0, 1) := by decide +kernel
theorem d_m_readRule_153 : decode prog_14_method_27_code 153 = .ok (.iconst 2, 1) := by decide +kernel
theorem d_m_readRule_154 : decode prog_14_method_27_code 154 = .ok (.iload 5, 2) := by decide +kernel
theorem d_m_readRule_156 : decode prog_14_method_27_code 156 = .ok (.imul, 1) := by decide +kernel
theorem d_m_readRule_157 : decode prog_14_method_27_code 157 = .ok (.invokevirtual 223, 3) := by decide +kernel
theorem d_m_readRule_160 : decode prog_14_method_27_code 160 = .ok (.aload_n 0, 1) := by decide +kernel
theorem d_m_readRule_161 : decode prog_14_method_27_code 161 = .ok (.getfield 70, 3) := by decide +kernel
theorem d_m_readRule_164 : decode prog_14_method_27_code 164 = .ok (.iload 5, 2) := by decide +kernel
theorem d_m_readRule_166 : decode prog_14_method_27_code 166 = .ok (.aload_n 0, 1) := by decide +kernel
theorem d_m_readRule_167 : decode prog_14_method_27_code 167 = .ok (.getfield 109, 3) := by decide +kernel
theorem d_m_readRule_170 : decode prog_14_method_27_code 170 = .ok (.ifCond .ne 26, 3) := by decide +kernel
theorem d_m_readRule_173 : decode prog_14_method_27_code 173 = .ok (.aload_n 0, 1) := by decide +kernel
theorem d_m_readRule_174 : decode prog_14_method_27_code 174 = .ok (.getfield 128, 3) := by decide +kernel
theorem d_m_readRule_177 : decode prog_14_method_27_code 177 = .ok (.iconst 1, 1) := by decide +kernel
theorem d_m_readRule_178 : decode prog_14_method_27_code 178 = .ok (.if_icmp .ne 18, 3) := by decide +kernel
theorem d_m_readRule_181 : decode prog_14_method_27_code 181 = .ok (.aload_n 0, 1) := by decide +kernel
theorem d_m_readRule_182 : decode prog_14_method_27_code 182 = .ok (.getfield 134, 3) := by decide +kernel
theorem d_m_readRule_185 : decode prog_14_method_27_code 185 = .ok (.ldc2_w 187, 3) := by decide +kernel
theorem d_m_readRule_188 : decode prog_14_method_27_code 188 = .ok (.lcmp, 1) := by decide +kernel
theorem d_m_readRule_189 : decode prog_14_method_27_code 189 = .ok (.ifCond .ne 7, 3) := by decide +kernel
theorem d_m_readRule_192 : decode prog_14_method_27_code 192 = .ok (.iconst 1, 1) := by decide +kernel
theorem d_m_readRule_193 : decode prog_14_method_27_code 193 = .ok (.goto 4, 3) := by decide +kernel
theorem d_m_readRule_196 : decode prog_14_method_27_code 196 = .ok (.iconst 0, 1) := by decide +kernel
theorem d_m_readRule_197 : decode prog_14_method_27_code 197 = .ok (.bastore, 1) := by decide +kernel
theorem d_m_readRule_198 : decode prog_14_method_27_code 198 = .ok (.aload_n 0, 1) := by decide +kernel
theorem d_m_readRule_199 : decode prog_14_method_27_code 199 = .ok (.getfield 70, 3) := by decide +kernel
theorem d_m_readRule_202 : decode prog_14_method_27_code 202 = .ok (.iload 5, 2) := by decide +kernel
theorem d_m_readRule_204 : decode prog_14_method_27_code 204 = .ok (.baload, 1) := by decide +kernel
theorem d_m_readRule_205 : decode prog_14_method_27_code 205 = .ok (.ifCond .eq 10, 3) := by decide +kernel
theorem d_m_readRule_208 : decode prog_14_method_27_code 208 = .ok (.aload_n 0, 1) := by decide +kernel
theorem d_m_readRule_209 : decode prog_14_method_27_code 209 = .ok (.invokevirtual 148, 3) := by decide +kernel
theorem d_m_readRule_212 : decode prog_14_method_27_code 212 = .ok (.goto 13, 3) := by decide +kernel
theorem d_m_readRule_215 : decode prog_14_method_27_code 215 = .ok (.aload_n 0, 1) := by decide +kernel
theorem d_m_readRule_216 : decode prog_14_method_27_code 216 = .ok (.iconst 2, 1) := by decide +kernel
theorem d_m_readRule_217 : decode prog_14_method_27_code 217 = .ok (.iload 5, 2) := by decide +kernel
theorem d_m_readRule_219 : decode prog_14_method_27_code 219 = .ok (.imul, 1) := by decide +kernel
theorem d_m_readRule_220 : decode prog_14_method_27_code 220 = .ok (.iconst 1, 1) := by decide +kernel
theorem d_m_readRule_221 : decode prog_14_method_27_code 221 = .ok (.iadd, 1) := by decide +kernel
theorem d_m_readRule_222 : decode prog_14_method_27_code 222 = .ok (.invokevirtual 223, 3) := by decide +kernel
theorem d_m_readRule_225 : decode prog_14_method_27_code 225 = .ok (.aload_n 0, 1) := by decide +kernel
theorem d_m_readRule_226 : decode prog_14_method_27_code 226 = .ok (.bipush 58, 2) := by decide +kernel
theorem d_m_readRule_228 : decode prog_14_method_27_code 228 = .ok (.invokevirtual 212, 3) := by decide +kernel
theorem d_m_readRule_231 : decode prog_14_method_27_code 231 = .ok (.iload_n 1, 1) := by decide +kernel
theorem d_m_readRule_232 : decode prog_14_method_27_code 232 = .ok (.iconst 4, 1) := by decide +kernel
theorem d_m_readRule_233 : decode prog_14_method_27_code 233 = .ok (.if_icmp .ne 60, 3) := by decide +kernel
theorem d_m_readRule_236 : decode prog_14_method_27_code 236 = .ok (.aload_n 0, 1) := by decide +kernel
theorem d_m_readRule_237 : decode prog_14_method_27_code 237 = .ok (.getfield 61, 3) := by decide +kernel
theorem d_m_readRule_240 : decode prog_14_method_27_code 240 = .ok (.iload 5, 2) := by decide +kernel
theorem d_m_readRule_242 : decode prog_14_method_27_code 242 = .ok (.aload_n 0, 1) := by decide +kernel
theorem d_m_readRule_243 : decode prog_14_method_27_code 243 = .ok (.invokevirtual 226, 3) := by decide +kernel
theorem d_m_readRule_246 : decode prog_14_method_27_code 246 = .ok (.iastore, 1) := by decide +kernel
theorem d_m_readRule_247 : decode prog_14_method_27_code 247 = .ok (.aload_n 0, 1) := by decide +kernel
theorem d_m_readRule_248 : decode prog_14_method_27_code 248 = .ok (.invokevirtual 193, 3) := by decide +kernel
theorem d_m_readRule_251 : decode prog_14_method_27_code 251 = .ok (.ifCond .eq 20, 3) := by decide +kernel
theorem d_m_readRule_254 : decode prog_14_method_27_code 254 = .ok (.aload_n 0, 1) := by decide +kernel
theorem d_m_readRule_255 : decode prog_14_method_27_code 255 = .ok (.getfield 64, 3) := by decide +kernel
theorem d_m_readRule_258 : decode prog_14_method_27_code 258 = .ok (.iload 5, 2) := by decide +kernel
theorem d_m_readRule_260 : decode prog_14_method_27_code 260 = .ok (.aload_n 0, 1) := by decide +kernel
theorem d_m_readRule_261 : decode prog_14_method_27_code 261 = .ok (.iload 4, 2) := by decide +kernel
theorem d_m_readRule_263 : decode prog_14_method_27_code 263 = .ok (.aload_n 0, 1) := by decide +kernel
theorem d_m_readRule_264 : decode prog_14_method_27_code 264 = .ok (.getfield 134, 3) := by decide +kernel
theorem d_m_readRule_267 : decode prog_14_method_27_code 267 = .ok (.invokevirtual 201, 3) := by decide +kernel
theorem d_m_readRule_270 : decode prog_14_method_27_code 270 = .ok (.iastore, 1) := by decide +kernel
theorem d_m_readRule_271 : decode prog_14_method_27_code 271 = .ok (.aload_n 0, 1) := by decide +kernel
theorem d_m_readRule_272 : decode prog_14_method_27_code 272 = .ok (.getfield 64, 3) := by decide +kernel
theorem d_m_readRule_275 : decode prog_14_method_27_code 275 = .ok (.iload 5, 2) := by decide +kernel
theorem d_m_readRule_277 : decode prog_14_method_27_code 277 = .ok (.iaload, 1) := by decide +kernel
theorem d_m_readRule_278 : decode prog_14_method_27_code 278 = .ok (.ifCond .ge 8, 3) := by decide +kernel
theorem d_m_readRule_281 : decode prog_14_method_27_code 281 = .ok (.aload_n 0, 1) := by decide +kernel
theorem d_m_readRule_282 : decode prog_14_method_27_code 282 = .ok (.iconst 2, 1) := by decide +kernel
theorem d_m_readRule_283 : decode prog_14_method_27_code 283 = .ok (.invokevirtual 141, 3) := by decide +kernel
theorem d_m_readRule_286 : decode prog_14_method_27_code 286 = .ok (.aload_n 0, 1) := by decide +kernel
theorem d_m_readRule_287 : decode prog_14_method_27_code 287 = .ok (.invokevirtual 148, 3) := by decide +kernel
theorem d_m_readRule_290 : decode prog_14_method_27_code 290 = .ok (.goto 77, 3) := by decide +kernel
theorem d_m_readRule_293 : decode prog_14_method_27_code 293 = .ok (.aload_n 0, 1) := by decide +kernel
theorem d_m_readRule_294 : decode prog_14_method_27_code 294 = .ok (.bipush 123, 2) := by decide +kernel
theorem d_m_readRule_296 : decode prog_14_method_27_code 296 = .ok (.invokevirtual 151, 3) := by decide +kernel
theorem d_m_readRule_299 : decode prog_14_method_27_code 299 = .ok (.istore 6, 2) := by decide +kernel
theorem d_m_readRule_301 : decode prog_14_method_27_code 301 = .ok (.aload_n 0, 1) := by decide +kernel
theorem d_m_readRule_302 : decode prog_14_method_27_code 302 = .ok (.getfield 61, 3) := by decide +kernel
theorem d_m_readRule_305 : decode prog_14_method_27_code 305 = .ok (.iload 5, 2) := by decide +kernel
theorem d_m_readRule_307 : decode prog_14_method_27_code 307 = .ok (.aload_n 0, 1) := by decide +kernel
theorem d_m_readRule_308 : decode prog_14_method_27_code 308 = .ok (.invokevirtual 226, 3) := by decide +kernel
theorem d_m_readRule_311 : decode prog_14_method_27_code 311 = .ok (.iastore, 1) := by decide +kernel
theorem d_m_readRule_312 : decode prog_14_method_27_code 312 = .ok (.iload 6, 2) := by decide +kernel
theorem d_m_readRule_314 : decode prog_14_method_27_code 314 = .ok (.ifCond .eq 36, 3) := by decide +kernel
theorem d_m_readRule_317 : decode prog_14_method_27_code 317 = .ok (.aload_n 0, 1) := by decide +kernel
theorem d_m_readRule_318 : decode prog_14_method_27_code 318 = .ok (.getfield 109, 3) := by decide +kernel
theorem d_m_readRule_321 : decode prog_14_method_27_code 321 = .ok (.ifCond .ne 29, 3) := by decide +kernel
theorem d_m_readRule_324 : decode prog_14_method_27_code 324 = .ok (.aload_n 0, 1) := by decide +kernel
theorem d_m_readRule_325 : decode prog_14_method_27_code 325 = .ok (.bipush 125, 2) := by decide +kernel
theorem d_m_readRule_327 : decode prog_14_method_27_code 327 = .ok (.invokevirtual 145, 3) := by decide +kernel
theorem d_m_readRule_330 : decode prog_14_method_27_code 330 = .ok (.ifCond .ne 20, 3) := by decide +kernel
theorem d_m_readRule_333 : decode prog_14_method_27_code 333 = .ok (.aload_n 0, 1) := by decide +kernel
theorem d_m_readRule_334 : decode prog_14_method_27_code 334 = .ok (.getfield 61, 3) := by decide +kernel
theorem d_m_readRule_337 : decode prog_14_method_27_code 337 = .ok (.iload 5, 2) := by decide +kernel
theorem d_m_readRule_339 : decode prog_14_method_27_code 339 = .ok (.dup2, 1) := by decide +kernel
theorem d_m_readRule_340 : decode prog_14_method_27_code 340 = .ok (.iaload, 1) := by decide +kernel
theorem d_m_readRule_341 : decode prog_14_method_27_code 341 = .ok (.aload_n 0, 1) := by decide +kernel
theorem d_m_readRule_342 : decode prog_14_method_27_code 342 = .ok (.invokevirtual 226, 3) := by decide +kernel
theorem d_m_readRule_345 : decode prog_14_method_27_code 345 = .ok (.ior, 1) := by decide +kernel
theorem d_m_readRule_346 : decode prog_14_method_27_code 346 = .ok (.iastore, 1) := by decide +kernel
theorem d_m_readRule_347 : decode prog_14_method_27_code 347 = .ok (.goto (-35), 3) := by decide +kernel
theorem d_m_readRule_350 : decode prog_14_method_27_code 350 = .ok (.iload 6, 2) := by decide +kernel
theorem d_m_readRule_352 : decode prog_14_method_27_code 352 = .ok (.ifCond .eq 9, 3) := by decide +kernel
theorem d_m_readRule_355 : decode prog_14_method_27_code 355 = .ok (.aload_n 0, 1) := by decide +kernel
theorem d_m_readRule_356 : decode prog_14_method_27_code 356 = .ok (.bipush 125, 2) := by decide +kernel
theorem d_m_readRule_358 : decode prog_14_method_27_code 358 = .ok (.invokevirtual 212, 3) := by decide +kernel
theorem d_m_readRule_361 : decode prog_14_method_27_code 361 = .ok (.aload_n 0, 1) := by decide +kernel
theorem d_m_readRule_362 : decode prog_14_method_27_code 362 = .ok (.iload 5, 2) := by decide +kernel
theorem d_m_readRule_364 : decode prog_14_method_27_code 364 = .ok (.invokevirtual 229, 3) := by decide +kernel
theorem d_m_readRule_367 : decode prog_14_method_27_code 367 = .ok (.aload_n 0, 1) := by decide +kernel
theorem d_m_readRule_368 : decode prog_14_method_27_code 368 = .ok (.bipush 59, 2) := by decide +kernel
theorem d_m_readRule_370 : decode prog_14_method_27_code 370 = .ok (.invokevirtual 212, 3) := by decide +kernel
theorem d_m_readRule_373 : decode prog_14_method_27_code 373 = .ok (.return_, 1) := by decide +kernel
def m_readRule_J367 (S_367 : MS) : Option MS := ((m_must 59 S_367).bind fun q370 => some q370)
def m_readRule_J286 (S_286 : MS) : Option MS := ((m_next S_286).bind fun q287 => m_readRule_J367 q287)
def m_readRule_J271 (v5_271 : Int32) (S_271 : MS) : Option MS := (if inbd v5_271 48 = true then (if 0 ≤ (gI S_271 17 (txN v5_271)) then m_readRule_J286 S_271 else ((m_fail 2 S_271).bind fun q283 => m_readRule_J286 q283)) else none)
def m_readRule_J361 (v5_361 : Int32) (S_361 : MS) : Option MS := ((m_readPermissions v5_361 S_361).bind fun q364 => m_readRule_J367 q364)
def m_readRule_J350 (v5_350 : Int32) (v6_350 : Bool) (S_350 : MS) : Option MS := (if v6_350 = true then ((m_must 125 S_350).bind fun q358 => m_readRule_J361 v5_350 q358) else m_readRule_J361 v5_350 S_350)
def m_readRule_L312 (v5_312 : Int32) (v6_312 : Bool) : Nat → MS → Option MS
  | 0, _ => none
  | n + 1, S_312 => (if v6_312 = true then (if (gI S_312 0 7) = 0 then ((m_is 125 S_312).bind fun q327 => (if q327 = true then m_readRule_J350 v5_312 v6_312 S_312 else (if inbd v5_312 48 = true then ((m_readClassName S_312).bind fun q342 => (if inbd v5_312 48 = true then (bd (pI q342.1 16 (txN v5_312) ((gI S_312 16 (txN v5_312)) ||| q342.2)) fun S346 => (m_readRule_L312 v5_312 v6_312 n) S346) else none)) else none))) else m_readRule_J350 v5_312 v6_312 S_312) else m_readRule_J350 v5_312 v6_312 S_312)
def m_readRule_J225 (v1_225 : Int32) (v4_225 : Int32) (v5_225 : Int32) (S_225 : MS) : Option MS := ((m_must 58 S_225).bind fun q228 => (if v1_225 = 4 then ((m_readClassName q228).bind fun q243 => (if inbd v5_225 48 = true then (bd (pI q243.1 16 (txN v5_225) q243.2) fun S246 => ((m_isName S246).bind fun q248 => (if q248.2 = true then ((m_typeOf v4_225 (gL q248.1 0 11) q248.1).bind fun q267 => (if inbd v5_225 48 = true then (bd (pI q248.1 17 (txN v5_225) q267) fun S270 => m_readRule_J271 v5_225 S270) else none)) else m_readRule_J271 v5_225 q248.1))) else none)) else ((m_passes 123 q228).bind fun q296 => ((m_readClassName q296.1).bind fun q308 => (if inbd v5_225 48 = true then (bd (pI q308.1 16 (txN v5_225) q308.2) fun S311 => m_readRule_L312 v5_225 q296.2 600 S311) else none)))))
def m_readRule_J197 (v1_197 : Int32) (v4_197 : Int32) (v5_197 : Int32) (s0_197 : Bool) (s1_197 : Int32) (S_197 : MS) : Option MS := (if inbd s1_197 48 = true then (bd (pB S_197 19 (txN s1_197) s0_197) fun S197 => (if inbd v5_197 48 = true then (if (gB S197 19 (txN v5_197)) = true then ((m_next S197).bind fun q209 => m_readRule_J225 v1_197 v4_197 v5_197 q209) else ((m_readSet ((2 * v5_197) + 1) S197).bind fun q222 => m_readRule_J225 v1_197 v4_197 v5_197 q222)) else none)) else none)
def m_readRule_J196 (v1_196 : Int32) (v4_196 : Int32) (v5_196 : Int32) (s0_196 : Int32) (S_196 : MS) : Option MS := m_readRule_J197 v1_196 v4_196 v5_196 false s0_196 S_196
def m_readRule_L123 (v1_123 : Int32) (v4_123 : Int32) (v5_123 : Int32) : Nat → Int32 → MS → Option MS
  | 0, _, _ => none
  | n + 1, v6_123, S_123 => (if 4 ≤ v6_123 then ((m_next S_123).bind fun q149 => ((m_readSet (2 * v5_123) q149).bind fun q157 => (if (gI q157 0 7) = 0 then (if (gI q157 0 5) = 1 then (if (gL q157 0 11) = 5001990 then m_readRule_J197 v1_123 v4_123 v5_123 true v5_123 q157 else m_readRule_J196 v1_123 v4_123 v5_123 v5_123 q157) else m_readRule_J196 v1_123 v4_123 v5_123 v5_123 q157) else m_readRule_J196 v1_123 v4_123 v5_123 v5_123 q157))) else (if inbd ((4 * v5_123) + v6_123) 192 = true then (bd (pI S_123 20 (txN ((4 * v5_123) + v6_123)) 0) fun S141 => (bd ((v6_123 + 1)) fun a142 => (m_readRule_L123 v1_123 v4_123 v5_123 n) a142 S141)) else none))
def m_readRule_J27 (v1_27 : Int32) (v2_27 : Int32) (v3_27 : Bool) (v4_27 : Int32) (S_27 : MS) : Option MS := (if (gI S_27 0 7) = 0 then (if inbd ((5 * v4_27) + 4) 10 = true then (bd (((24 * v4_27) + (gI S_27 2 (txN ((5 * v4_27) + 4))))) fun a52 => (bd (((5 * v4_27) + 4)) fun a64 => (if inbd a64 10 = true then (if inbd a64 10 = true then (bd (pI S_27 2 (txN a64) ((gI S_27 2 (txN a64)) + 1)) fun S68 => (if inbd a52 48 = true then (bd (pI S68 11 (txN a52) v1_27) fun S76 => (if inbd a52 48 = true then (bd (pI S76 12 (txN a52) (gI S76 0 3)) fun S87 => (if inbd a52 48 = true then (bd (pI S87 13 (txN a52) v2_27) fun S95 => (if inbd a52 48 = true then (bd (pB S95 18 (txN a52) v3_27) fun S103 => (if inbd a52 48 = true then (bd (pI S103 16 (txN a52) 0) fun S111 => (if inbd a52 48 = true then (bd (pI S111 17 (txN a52) (-1)) fun S119 => m_readRule_L123 v1_27 v4_27 a52 600 0 S119) else none)) else none)) else none)) else none)) else none)) else none)) else none) else none))) else none) else some S_27)
def m_readRule (x1 : Int32) (x2 : Int32) (x3 : Bool) (S : MS) : Option MS := ((m_own S).bind fun q1 => (if inbd ((5 * q1) + 4) 10 = true then (if (gI S 2 (txN ((5 * q1) + 4))) = 24 then ((m_fail 4 S).bind fun q24 => m_readRule_J27 x1 x2 x3 q1 q24) else m_readRule_J27 x1 x2 x3 q1 S) else none))
set_option maxHeartbeats 4000000 in
set_option maxRecDepth 100000 in
theorem M_m_readRule {l : Launch} {D : va_G} {cA : Nat → ClassId} {b : Nat} {ad : Nat → Nat} {x1 : Int32} {x2 : Int32} {x3 : Bool} {S : MS} {T : CS} {o : Nat → Int64} {rr : MS}  (h : m_readRule x1 x2 x3 S = some rr) : Met l y_m_readRule (Cond.code y_m_readRule prog_14_method_27_code 7 (Option.none : Option Jvm.ClassFile.FieldType) :: TW) { frames := 6, cells := 0, slots := 0, locals := 131 } (va_Pc [.ref (b + 262), .int x1, .int x2, .int (bI x3)] (Rp D cA b ad (T, S, o))) (Qr D cA b ad (T, rr, o) none) 0 0 (Ab b) := by
  refine Ct_of (by decide) (Nat.le_of_ble_eq_true rfl) ?_
  intro p e R s m args below meth c ls Q H locs hR hQ hx hb hts hown hml hr hlk hC hX hS hl
  have hRf : R.frames = 6 := by rw [hR]
  have hRl : R.locals = 131 := by rw [hR]
  have hown : s.vm.findClass "TypeGuardModel" = some m.cls := hown
  have hl : lv_has ls 7 [(0, .ref (b + 262)), (1, .int x1), (2, .int x2), (3, .int (bI x3))] := hl
  rw [m_readRule] at h
  refine lv_aload_n hx hb d_m_readRule_0 rfl (lv_at hl 0 rfl) ?_
  obtain ⟨q1, hc1, h⟩ := Option.bind_eq_some_iff.mp h
  refine ck_V (As := []) (rest := []) (st1 := [.int q1]) (M_m_own  hc1) t_1145 t_1147 p_38 t_1148 t_13 hx hb hts hown hC hX hS (hrc_m0 hC hX (by rfl)) hml hl.1 ⟨by rw [hRf]; decide, by rw [hRl]; decide⟩ ⟨rfl, rfl⟩ (n := 0) (by decide +kernel) rfl rfl rfl (lv_room (Nat.le_of_ble_eq_true rfl)) d_m_readRule_1 (fun H locs hX hS => ?_)
  refine lv_istore (lv' := [(4, .int q1), (0, .ref (b + 262)), (1, .int x1), (2, .int x2), (3, .int (bI x3))]) hx hb d_m_readRule_4 hl (by decide) rfl (fun ls hl => ?_)
  refine lv_aload_n hx hb d_m_readRule_6 rfl (lv_at hl 1 rfl) ?_
  refine m_get_0_13 hx hb hts hown hC hX (by rfl) (hts _ t_1000) d_m_readRule_7 ?_
  refine lv_iconst (v := 5) hx hb d_m_readRule_10 (by decide) ?_
  refine lv_iload hx hb d_m_readRule_11 (lv_at hl 0 rfl) ?_
  refine lv_imul hx hb d_m_readRule_13 ?_
  refine lv_iconst (v := 4) hx hb d_m_readRule_14 (by decide) ?_
  refine lv_iadd hx hb d_m_readRule_15 ?_
  by_cases hg16 : inbd ((5 * q1) + 4) 10 = true
  rotate_left; · rw [if_neg hg16] at h; cases h
  rw [if_pos hg16] at h
  refine m_ald_1 (k := 2) hx hb hC hX (by rfl) hg16 d_m_readRule_16 ?_
  refine lv_bipush (v := 24) hx hb d_m_readRule_17 (by decide) ?_
  have J27 : ∀ (S_27 : MS) (H : Heap) (locs : List Loc) (ls : Array Slot), hp D cA b ad (T, S_27, o) H → va_S (Ab b) s.heap H locs → lv_has ls 7 [(0, .ref (b + 262)), (1, .int x1), (2, .int x2), (3, .int (bI x3)), (4, .int q1)] → m_readRule_J27 x1 x2 x3 q1 S_27 = some rr → W p l e R s m args below meth c H locs 0 0 Q (F0 m 27 ls []) := by
    intro S_27 H locs ls  hX hS hl h
    rw [m_readRule_J27] at h
    refine lv_aload_n hx hb d_m_readRule_27 rfl (lv_at hl 0 rfl) ?_
    refine m_get_0_7 hx hb hts hown hC hX (by rfl) (hts _ t_994) d_m_readRule_28 ?_
    refine lv_if_eq hx hb d_m_readRule_31 (tgt := 35) (by decide) (fun hc => ?_) (fun hc => ?_)
    · rw [if_pos hc] at h
      refine lv_bipush (v := 24) hx hb d_m_readRule_35 (by decide) ?_
      refine lv_iload hx hb d_m_readRule_37 (lv_at hl 4 rfl) ?_
      refine lv_imul hx hb d_m_readRule_39 ?_
      refine lv_aload_n hx hb d_m_readRule_40 rfl (lv_at hl 0 rfl) ?_
      refine m_get_0_13 hx hb hts hown hC hX (by rfl) (hts _ t_1000) d_m_readRule_41 ?_
      refine lv_iconst (v := 5) hx hb d_m_readRule_44 (by decide) ?_
      refine lv_iload hx hb d_m_readRule_45 (lv_at hl 4 rfl) ?_
      refine lv_imul hx hb d_m_readRule_47 ?_
      refine lv_iconst (v := 4) hx hb d_m_readRule_48 (by decide) ?_
      refine lv_iadd hx hb d_m_readRule_49 ?_
      by_cases hg50 : inbd ((5 * q1) + 4) 10 = true
      rotate_left; · rw [if_neg hg50] at h; cases h
      rw [if_pos hg50] at h
      refine m_ald_1 (k := 2) hx hb hC hX (by rfl) hg50 d_m_readRule_50 ?_
      refine lv_iadd hx hb d_m_readRule_51 ?_
      obtain ⟨a52, e52, h⟩ := bd_some h
      refine lt_I e52 ?_
      refine lv_istore (lv' := [(5, .int a52), (0, .ref (b + 262)), (1, .int x1), (2, .int x2), (3, .int (bI x3)), (4, .int q1)]) hx hb d_m_readRule_52 hl (by decide) rfl (fun ls hl => ?_)
      refine lv_aload_n hx hb d_m_readRule_54 rfl (lv_at hl 1 rfl) ?_
      refine m_get_0_13 hx hb hts hown hC hX (by rfl) (hts _ t_1000) d_m_readRule_55 ?_
      refine lv_iconst (v := 5) hx hb d_m_readRule_58 (by decide) ?_
      refine lv_iload hx hb d_m_readRule_59 (lv_at hl 5 rfl) ?_
      refine lv_imul hx hb d_m_readRule_61 ?_
      refine lv_iconst (v := 4) hx hb d_m_readRule_62 (by decide) ?_
      refine lv_iadd hx hb d_m_readRule_63 ?_
      obtain ⟨a64, e64, h⟩ := bd_some h
      refine lt_I e64 ?_
      refine lv_dup2_11 hx hb d_m_readRule_64 rfl rfl ?_
      by_cases hg65 : inbd a64 10 = true
      rotate_left; · rw [if_neg hg65] at h; cases h
      rw [if_pos hg65] at h
      refine m_ald_1 (k := 2) hx hb hC hX (by rfl) hg65 d_m_readRule_65 ?_
      refine lv_iconst (v := 1) hx hb d_m_readRule_66 (by decide) ?_
      refine lv_iadd hx hb d_m_readRule_67 ?_
      by_cases hg68 : inbd a64 10 = true
      rotate_left; · rw [if_neg hg68] at h; cases h
      rw [if_pos hg68] at h
      refine m_ast_1 (k := 2) (v := ((gI S_27 2 (txN a64)) + 1)) hx hb hC hX hS (by rfl) hg68 d_m_readRule_68 (fun H locs hX hS => ?_)
      obtain ⟨S68, e68, h⟩ := bd_some h
      rw [← e68] at hX
      refine lv_aload_n hx hb d_m_readRule_69 rfl (lv_at hl 1 rfl) ?_
      refine m_get_0_22 hx hb hts hown hC hX (by rfl) (hts _ t_1009) d_m_readRule_70 ?_
      refine lv_iload hx hb d_m_readRule_73 (lv_at hl 0 rfl) ?_
      refine lv_iload_n hx hb d_m_readRule_75 rfl (lv_at hl 2 rfl) ?_
      by_cases hg76 : inbd a52 48 = true
      rotate_left; · rw [if_neg hg76] at h; cases h
      rw [if_pos hg76] at h
      refine m_ast_1 (k := 11) (v := x1) hx hb hC hX hS (by rfl) hg76 d_m_readRule_76 (fun H locs hX hS => ?_)
      obtain ⟨S76, e76, h⟩ := bd_some h
      rw [← e76] at hX
      refine lv_aload_n hx hb d_m_readRule_77 rfl (lv_at hl 1 rfl) ?_
      refine m_get_0_23 hx hb hts hown hC hX (by rfl) (hts _ t_1010) d_m_readRule_78 ?_
      refine lv_iload hx hb d_m_readRule_81 (lv_at hl 0 rfl) ?_
      refine lv_aload_n hx hb d_m_readRule_83 rfl (lv_at hl 1 rfl) ?_
      refine m_get_0_3 hx hb hts hown hC hX (by rfl) (hts _ t_990) d_m_readRule_84 ?_
      by_cases hg87 : inbd a52 48 = true
      rotate_left; · rw [if_neg hg87] at h; cases h
      rw [if_pos hg87] at h
      refine m_ast_1 (k := 12) (v := (gI S76 0 3)) hx hb hC hX hS (by rfl) hg87 d_m_readRule_87 (fun H locs hX hS => ?_)
      obtain ⟨S87, e87, h⟩ := bd_some h
      rw [← e87] at hX
      refine lv_aload_n hx hb d_m_readRule_88 rfl (lv_at hl 1 rfl) ?_
      refine m_get_0_24 hx hb hts hown hC hX (by rfl) (hts _ t_1011) d_m_readRule_89 ?_
      refine lv_iload hx hb d_m_readRule_92 (lv_at hl 0 rfl) ?_
      refine lv_iload_n hx hb d_m_readRule_94 rfl (lv_at hl 3 rfl) ?_
      by_cases hg95 : inbd a52 48 = true
      rotate_left; · rw [if_neg hg95] at h; cases h
      rw [if_pos hg95] at h
      refine m_ast_1 (k := 13) (v := x2) hx hb hC hX hS (by rfl) hg95 d_m_readRule_95 (fun H locs hX hS => ?_)
      obtain ⟨S95, e95, h⟩ := bd_some h
      rw [← e95] at hX
      refine lv_aload_n hx hb d_m_readRule_96 rfl (lv_at hl 1 rfl) ?_
      refine m_get_0_29 hx hb hts hown hC hX (by rfl) (hts _ t_1016) d_m_readRule_97 ?_
      refine lv_iload hx hb d_m_readRule_100 (lv_at hl 0 rfl) ?_
      refine lv_iload_n hx hb d_m_readRule_102 rfl (lv_at hl 4 rfl) ?_
      by_cases hg103 : inbd a52 48 = true
      rotate_left; · rw [if_neg hg103] at h; cases h
      rw [if_pos hg103] at h
      refine m_ast_3 (k := 18) (v := x3) hx hb hC hX hS (by rfl) hg103 d_m_readRule_103 (fun H locs hX hS => ?_)
      obtain ⟨S103, e103, h⟩ := bd_some h
      rw [← e103] at hX
      refine lv_aload_n hx hb d_m_readRule_104 rfl (lv_at hl 1 rfl) ?_
      refine m_get_0_27 hx hb hts hown hC hX (by rfl) (hts _ t_1014) d_m_readRule_105 ?_
      refine lv_iload hx hb d_m_readRule_108 (lv_at hl 0 rfl) ?_
      refine lv_iconst (v := 0) hx hb d_m_readRule_110 (by decide) ?_
      by_cases hg111 : inbd a52 48 = true
      rotate_left; · rw [if_neg hg111] at h; cases h
      rw [if_pos hg111] at h
      refine m_ast_1 (k := 16) (v := 0) hx hb hC hX hS (by rfl) hg111 d_m_readRule_111 (fun H locs hX hS => ?_)
      obtain ⟨S111, e111, h⟩ := bd_some h
      rw [← e111] at hX
      refine lv_aload_n hx hb d_m_readRule_112 rfl (lv_at hl 1 rfl) ?_
      refine m_get_0_28 hx hb hts hown hC hX (by rfl) (hts _ t_1015) d_m_readRule_113 ?_
      refine lv_iload hx hb d_m_readRule_116 (lv_at hl 0 rfl) ?_
      refine lv_iconst (v := (-1)) hx hb d_m_readRule_118 (by decide) ?_
      by_cases hg119 : inbd a52 48 = true
      rotate_left; · rw [if_neg hg119] at h; cases h
      rw [if_pos hg119] at h
      refine m_ast_1 (k := 17) (v := (-1)) hx hb hC hX hS (by rfl) hg119 d_m_readRule_119 (fun H locs hX hS => ?_)
      obtain ⟨S119, e119, h⟩ := bd_some h
      rw [← e119] at hX
      refine lv_iconst (v := 0) hx hb d_m_readRule_120 (by decide) ?_
      refine lv_istore (lv' := [(6, .int 0), (5, .int a52), (0, .ref (b + 262)), (1, .int x1), (2, .int x2), (3, .int (bI x3)), (4, .int q1)]) hx hb d_m_readRule_121 hl (by decide) rfl (fun ls hl => ?_)
      have L123 : ∀ (n123 : Nat) (v6_123 : Int32) (S_123 : MS) (H : Heap) (locs : List Loc) (ls : Array Slot), hp D cA b ad (T, S_123, o) H → va_S (Ab b) s.heap H locs → lv_has ls 7 [(0, .ref (b + 262)), (1, .int x1), (4, .int q1), (5, .int a52), (6, .int v6_123)] → m_readRule_L123 x1 q1 a52 n123 v6_123 S_123 = some rr → W p l e R s m args below meth c H locs 0 0 Q (F0 m 123 ls []) := by
        intro n123; induction n123 with
        | zero => intro v6_123 S_123 H locs ls  hX hS hl h; rw [m_readRule_L123] at h; cases h
        | succ n123 ih123 =>
          intro v6_123 S_123 H locs ls  hX hS hl h
          rw [m_readRule_L123] at h
          refine lv_iload hx hb d_m_readRule_123 (lv_at hl 4 rfl) ?_
          refine lv_iconst (v := 4) hx hb d_m_readRule_125 (by decide) ?_
          refine lv_icmp_ge hx hb d_m_readRule_126 (tgt := 148) (by decide) (fun hc => ?_) (fun hc => ?_)
          · rw [if_pos hc] at h
            refine lv_aload_n hx hb d_m_readRule_148 rfl (lv_at hl 0 rfl) ?_
            obtain ⟨q149, hc149, h⟩ := Option.bind_eq_some_iff.mp h
            refine ck_V (As := []) (rest := []) (st1 := []) (M_m_next  hc149) t_1149 t_1151 p_39 t_1152 t_13 hx hb hts hown hC hX hS (hrc_m0 hC hX (by rfl)) hml hl.1 ⟨by rw [hRf]; decide, by rw [hRl]; decide⟩ ⟨rfl, rfl⟩ (n := 0) (by decide +kernel) rfl rfl rfl (lv_room (Nat.le_of_ble_eq_true rfl)) d_m_readRule_149 (fun H locs hX hS => ?_)
            refine lv_aload_n hx hb d_m_readRule_152 rfl (lv_at hl 0 rfl) ?_
            refine lv_iconst (v := 2) hx hb d_m_readRule_153 (by decide) ?_
            refine lv_iload hx hb d_m_readRule_154 (lv_at hl 3 rfl) ?_
            refine lv_imul hx hb d_m_readRule_156 ?_
            obtain ⟨q157, hc157, h⟩ := Option.bind_eq_some_iff.mp h
            refine ck_V (As := [.int (2 * a52)]) (rest := []) (st1 := []) (M_m_readSet  hc157) t_1184 t_1186 p_43 t_1187 t_13 hx hb hts hown hC hX hS (hrc_m0 hC hX (by rfl)) hml hl.1 ⟨by rw [hRf]; decide, by rw [hRl]; decide⟩ ⟨rfl, rfl⟩ (n := 1) (by decide +kernel) rfl rfl rfl (lv_room (Nat.le_of_ble_eq_true rfl)) d_m_readRule_157 (fun H locs hX hS => ?_)
            refine lv_aload_n hx hb d_m_readRule_160 rfl (lv_at hl 0 rfl) ?_
            refine m_get_0_30 hx hb hts hown hC hX (by rfl) (hts _ t_1017) d_m_readRule_161 ?_
            refine lv_iload hx hb d_m_readRule_164 (lv_at hl 3 rfl) ?_
            refine lv_aload_n hx hb d_m_readRule_166 rfl (lv_at hl 0 rfl) ?_
            refine m_get_0_7 hx hb hts hown hC hX (by rfl) (hts _ t_994) d_m_readRule_167 ?_
            have J197 : ∀ (s0_197 : Bool) (H : Heap) (locs : List Loc) (ls : Array Slot), hp D cA b ad (T, q157, o) H → va_S (Ab b) s.heap H locs → lv_has ls 7 [(0, .ref (b + 262)), (1, .int x1), (4, .int q1), (5, .int a52)] → m_readRule_J197 x1 q1 a52 s0_197 a52 q157 = some rr → W p l e R s m args below meth c H locs 0 0 Q (F0 m 197 ls [.int (bI s0_197), .int a52, .ref (b + 281)]) := by
              intro s0_197 H locs ls  hX hS hl h
              rw [m_readRule_J197] at h
              by_cases hg197 : inbd a52 48 = true
              rotate_left; · rw [if_neg hg197] at h; cases h
              rw [if_pos hg197] at h
              refine m_ast_3 (k := 19) (v := s0_197) hx hb hC hX hS (by rfl) hg197 d_m_readRule_197 (fun H locs hX hS => ?_)
              obtain ⟨S197, e197, h⟩ := bd_some h
              rw [← e197] at hX
              refine lv_aload_n hx hb d_m_readRule_198 rfl (lv_at hl 0 rfl) ?_
              refine m_get_0_30 hx hb hts hown hC hX (by rfl) (hts _ t_1017) d_m_readRule_199 ?_
              refine lv_iload hx hb d_m_readRule_202 (lv_at hl 3 rfl) ?_
              by_cases hg204 : inbd a52 48 = true
              rotate_left; · rw [if_neg hg204] at h; cases h
              rw [if_pos hg204] at h
              refine m_ald_3 (k := 19) hx hb hC hX (by rfl) hg204 d_m_readRule_204 ?_
              have J225 : ∀ (S_225 : MS) (H : Heap) (locs : List Loc) (ls : Array Slot), hp D cA b ad (T, S_225, o) H → va_S (Ab b) s.heap H locs → lv_has ls 7 [(0, .ref (b + 262)), (1, .int x1), (4, .int q1), (5, .int a52)] → m_readRule_J225 x1 q1 a52 S_225 = some rr → W p l e R s m args below meth c H locs 0 0 Q (F0 m 225 ls []) := by
                intro S_225 H locs ls  hX hS hl h
                rw [m_readRule_J225] at h
                refine lv_aload_n hx hb d_m_readRule_225 rfl (lv_at hl 0 rfl) ?_
                refine lv_bipush (v := 58) hx hb d_m_readRule_226 (by decide) ?_
                obtain ⟨q228, hc228, h⟩ := Option.bind_eq_some_iff.mp h
                refine ck_V (As := [.int 58]) (rest := []) (st1 := []) (M_m_must  hc228) t_1213 t_1215 p_49 t_1216 t_13 hx hb hts hown hC hX hS (hrc_m0 hC hX (by rfl)) hml hl.1 ⟨by rw [hRf]; decide, by rw [hRl]; decide⟩ ⟨rfl, rfl⟩ (n := 1) (by decide +kernel) rfl rfl rfl (lv_room (Nat.le_of_ble_eq_true rfl)) d_m_readRule_228 (fun H locs hX hS => ?_)
                refine lv_iload_n hx hb d_m_readRule_231 rfl (lv_at hl 1 rfl) ?_
                refine lv_iconst (v := 4) hx hb d_m_readRule_232 (by decide) ?_
                have J367 : ∀ (S_367 : MS) (H : Heap) (locs : List Loc) (ls : Array Slot), hp D cA b ad (T, S_367, o) H → va_S (Ab b) s.heap H locs → lv_has ls 7 [(0, .ref (b + 262))] → m_readRule_J367 S_367 = some rr → W p l e R s m args below meth c H locs 0 0 Q (F0 m 367 ls []) := by
                  intro S_367 H locs ls  hX hS hl h
                  rw [m_readRule_J367] at h
                  refine lv_aload_n hx hb d_m_readRule_367 rfl (lv_at hl 0 rfl) ?_
                  refine lv_bipush (v := 59) hx hb d_m_readRule_368 (by decide) ?_
                  obtain ⟨q370, hc370, h⟩ := Option.bind_eq_some_iff.mp h
                  refine ck_V (As := [.int 59]) (rest := []) (st1 := []) (M_m_must  hc370) t_1213 t_1215 p_49 t_1216 t_13 hx hb hts hown hC hX hS (hrc_m0 hC hX (by rfl)) hml hl.1 ⟨by rw [hRf]; decide, by rw [hRl]; decide⟩ ⟨rfl, rfl⟩ (n := 1) (by decide +kernel) rfl rfl rfl (lv_room (Nat.le_of_ble_eq_true rfl)) d_m_readRule_370 (fun H locs hX hS => ?_)
                  obtain rfl := Option.some.inj h
                  exact rt_v hQ hx hb hr hX hS hlk d_m_readRule_373
                refine lv_icmp_ne hx hb d_m_readRule_233 (tgt := 293) (by decide) (fun hc => ?_) (fun hc => ?_)
                · rw [if_neg hc] at h
                  refine lv_aload_n hx hb d_m_readRule_293 rfl (lv_at hl 0 rfl) ?_
                  refine lv_bipush (v := 123) hx hb d_m_readRule_294 (by decide) ?_
                  obtain ⟨q296, hc296, h⟩ := Option.bind_eq_some_iff.mp h
                  refine ck_V (As := [.int 123]) (rest := []) (st1 := [.int (bI q296.2)]) (M_m_passes  hc296) t_1188 t_1190 p_44 t_1191 t_13 hx hb hts hown hC hX hS (hrc_m0 hC hX (by rfl)) hml hl.1 ⟨by rw [hRf]; decide, by rw [hRl]; decide⟩ ⟨rfl, rfl⟩ (n := 1) (by decide +kernel) rfl rfl rfl (lv_room (Nat.le_of_ble_eq_true rfl)) d_m_readRule_296 (fun H locs hX hS => ?_)
                  refine lv_istore (lv' := [(6, .int (bI q296.2)), (0, .ref (b + 262)), (1, .int x1), (4, .int q1), (5, .int a52)]) hx hb d_m_readRule_299 hl (by decide) rfl (fun ls hl => ?_)
                  refine lv_aload_n hx hb d_m_readRule_301 rfl (lv_at hl 1 rfl) ?_
                  refine m_get_0_27 hx hb hts hown hC hX (by rfl) (hts _ t_1014) d_m_readRule_302 ?_
                  refine lv_iload hx hb d_m_readRule_305 (lv_at hl 4 rfl) ?_
                  refine lv_aload_n hx hb d_m_readRule_307 rfl (lv_at hl 1 rfl) ?_
                  obtain ⟨q308, hc308, h⟩ := Option.bind_eq_some_iff.mp h
                  refine ck_V (As := []) (rest := [.int a52, .ref (b + 278)]) (st1 := [.int q308.2, .int a52, .ref (b + 278)]) (M_m_readClassName  hc308) t_1218 t_1220 p_50 t_1221 t_13 hx hb hts hown hC hX hS (hrc_m0 hC hX (by rfl)) hml hl.1 ⟨by rw [hRf]; decide, by rw [hRl]; decide⟩ ⟨rfl, rfl⟩ (n := 0) (by decide +kernel) rfl rfl rfl (lv_room (Nat.le_of_ble_eq_true rfl)) d_m_readRule_308 (fun H locs hX hS => ?_)
                  by_cases hg311 : inbd a52 48 = true
                  rotate_left; · rw [if_neg hg311] at h; cases h
                  rw [if_pos hg311] at h
                  refine m_ast_1 (k := 16) (v := q308.2) hx hb hC hX hS (by rfl) hg311 d_m_readRule_311 (fun H locs hX hS => ?_)
                  obtain ⟨S311, e311, h⟩ := bd_some h
                  rw [← e311] at hX
                  have L312 : ∀ (n312 : Nat) (S_312 : MS) (H : Heap) (locs : List Loc) (ls : Array Slot), hp D cA b ad (T, S_312, o) H → va_S (Ab b) s.heap H locs → lv_has ls 7 [(0, .ref (b + 262)), (5, .int a52), (6, .int (bI q296.2))] → m_readRule_L312 a52 q296.2 n312 S_312 = some rr → W p l e R s m args below meth c H locs 0 0 Q (F0 m 312 ls []) := by
                    intro n312; induction n312 with
                    | zero => intro S_312 H locs ls  hX hS hl h; rw [m_readRule_L312] at h; cases h
                    | succ n312 ih312 =>
                      intro S_312 H locs ls  hX hS hl h
                      rw [m_readRule_L312] at h
                      refine lv_iload hx hb d_m_readRule_312 (lv_at hl 2 rfl) ?_
                      have J350 : ∀  (H : Heap) (locs : List Loc) (ls : Array Slot), hp D cA b ad (T, S_312, o) H → va_S (Ab b) s.heap H locs → lv_has ls 7 [(0, .ref (b + 262)), (5, .int a52), (6, .int (bI q296.2))] → m_readRule_J350 a52 q296.2 S_312 = some rr → W p l e R s m args below meth c H locs 0 0 Q (F0 m 350 ls []) := by
                        intro  H locs ls  hX hS hl h
                        rw [m_readRule_J350] at h
                        refine lv_iload hx hb d_m_readRule_350 (lv_at hl 2 rfl) ?_
                        have J361 : ∀ (S_361 : MS) (H : Heap) (locs : List Loc) (ls : Array Slot), hp D cA b ad (T, S_361, o) H → va_S (Ab b) s.heap H locs → lv_has ls 7 [(0, .ref (b + 262)), (5, .int a52)] → m_readRule_J361 a52 S_361 = some rr → W p l e R s m args below meth c H locs 0 0 Q (F0 m 361 ls []) := by
                          intro S_361 H locs ls  hX hS hl h
                          rw [m_readRule_J361] at h
                          refine lv_aload_n hx hb d_m_readRule_361 rfl (lv_at hl 0 rfl) ?_
                          refine lv_iload hx hb d_m_readRule_362 (lv_at hl 1 rfl) ?_
                          obtain ⟨q364, hc364, h⟩ := Option.bind_eq_some_iff.mp h
                          refine ck_V (As := [.int a52]) (rest := []) (st1 := []) (M_m_readPermissions  hc364) t_1226 t_1228 p_52 t_1229 t_13 hx hb hts hown hC hX hS (hrc_m0 hC hX (by rfl)) hml hl.1 ⟨by rw [hRf]; decide, by rw [hRl]; decide⟩ ⟨rfl, rfl⟩ (n := 1) (by decide +kernel) rfl rfl rfl (lv_room (Nat.le_of_ble_eq_true rfl)) d_m_readRule_364 (fun H locs hX hS => ?_)
                          exact J367 q364 H locs ls  hX hS (lv_sub hl [0] rfl) h
                        refine lz_ifeq hx hb d_m_readRule_352 (tgt := 361) (by decide) (fun hc => ?_) (fun hc => ?_)
                        · rw [if_neg hc] at h
                          exact J361 S_312 H locs ls  hX hS (lv_sub hl [0, 1] rfl) h
                        · rw [if_pos hc] at h
                          refine lv_aload_n hx hb d_m_readRule_355 rfl (lv_at hl 0 rfl) ?_
                          refine lv_bipush (v := 125) hx hb d_m_readRule_356 (by decide) ?_
                          obtain ⟨q358, hc358, h⟩ := Option.bind_eq_some_iff.mp h
                          refine ck_V (As := [.int 125]) (rest := []) (st1 := []) (M_m_must  hc358) t_1213 t_1215 p_49 t_1216 t_13 hx hb hts hown hC hX hS (hrc_m0 hC hX (by rfl)) hml hl.1 ⟨by rw [hRf]; decide, by rw [hRl]; decide⟩ ⟨rfl, rfl⟩ (n := 1) (by decide +kernel) rfl rfl rfl (lv_room (Nat.le_of_ble_eq_true rfl)) d_m_readRule_358 (fun H locs hX hS => ?_)
                          exact J361 q358 H locs ls  hX hS (lv_sub hl [0, 1] rfl) h
                      refine lz_ifeq hx hb d_m_readRule_314 (tgt := 350) (by decide) (fun hc => ?_) (fun hc => ?_)
                      · rw [if_neg hc] at h
                        exact J350  H locs ls  hX hS (lv_sub hl [0, 1, 2] rfl) h
                      · rw [if_pos hc] at h
                        refine lv_aload_n hx hb d_m_readRule_317 rfl (lv_at hl 0 rfl) ?_
                        refine m_get_0_7 hx hb hts hown hC hX (by rfl) (hts _ t_994) d_m_readRule_318 ?_
                        refine lv_if_ne hx hb d_m_readRule_321 (tgt := 350) (by decide) (fun hc => ?_) (fun hc => ?_)
                        · rw [if_neg hc] at h
                          exact J350  H locs ls  hX hS (lv_sub hl [0, 1, 2] rfl) h
                        · rw [if_pos hc] at h
                          refine lv_aload_n hx hb d_m_readRule_324 rfl (lv_at hl 0 rfl) ?_
                          refine lv_bipush (v := 125) hx hb d_m_readRule_325 (by decide) ?_
                          obtain ⟨q327, hc327, h⟩ := Option.bind_eq_some_iff.mp h
                          refine ck_V (As := [.int 125]) (rest := []) (st1 := [.int (bI q327)]) (M_m_is  hc327) t_1192 t_1194 p_45 t_1195 t_13 hx hb hts hown hC hX hS (hrc_m0 hC hX (by rfl)) hml hl.1 ⟨by rw [hRf]; decide, by rw [hRl]; decide⟩ ⟨rfl, rfl⟩ (n := 1) (by decide +kernel) rfl rfl rfl (lv_room (Nat.le_of_ble_eq_true rfl)) d_m_readRule_327 (fun H locs hX hS => ?_)
                          refine lz_ifne hx hb d_m_readRule_330 (tgt := 350) (by decide) (fun hc => ?_) (fun hc => ?_)
                          · rw [if_pos hc] at h
                            exact J350  H locs ls  hX hS (lv_sub hl [0, 1, 2] rfl) h
                          · rw [if_neg hc] at h
                            refine lv_aload_n hx hb d_m_readRule_333 rfl (lv_at hl 0 rfl) ?_
                            refine m_get_0_27 hx hb hts hown hC hX (by rfl) (hts _ t_1014) d_m_readRule_334 ?_
                            refine lv_iload hx hb d_m_readRule_337 (lv_at hl 1 rfl) ?_
                            refine lv_dup2_11 hx hb d_m_readRule_339 rfl rfl ?_
                            by_cases hg340 : inbd a52 48 = true
                            rotate_left; · rw [if_neg hg340] at h; cases h
                            rw [if_pos hg340] at h
                            refine m_ald_1 (k := 16) hx hb hC hX (by rfl) hg340 d_m_readRule_340 ?_
                            refine lv_aload_n hx hb d_m_readRule_341 rfl (lv_at hl 0 rfl) ?_
                            obtain ⟨q342, hc342, h⟩ := Option.bind_eq_some_iff.mp h
                            refine ck_V (As := []) (rest := [.int (gI S_312 16 (txN a52)), .int a52, .ref (b + 278)]) (st1 := [.int q342.2, .int (gI S_312 16 (txN a52)), .int a52, .ref (b + 278)]) (M_m_readClassName  hc342) t_1218 t_1220 p_50 t_1221 t_13 hx hb hts hown hC hX hS (hrc_m0 hC hX (by rfl)) hml hl.1 ⟨by rw [hRf]; decide, by rw [hRl]; decide⟩ ⟨rfl, rfl⟩ (n := 0) (by decide +kernel) rfl rfl rfl (lv_room (Nat.le_of_ble_eq_true rfl)) d_m_readRule_342 (fun H locs hX hS => ?_)
                            refine lv_ior hx hb d_m_readRule_345 ?_
                            by_cases hg346 : inbd a52 48 = true
                            rotate_left; · rw [if_neg hg346] at h; cases h
                            rw [if_pos hg346] at h
                            refine m_ast_1 (k := 16) (v := ((gI S_312 16 (txN a52)) ||| q342.2)) hx hb hC hX hS (by rfl) hg346 d_m_readRule_346 (fun H locs hX hS => ?_)
                            obtain ⟨S346, e346, h⟩ := bd_some h
                            rw [← e346] at hX
                            refine lv_goto hx hb d_m_readRule_347 (tgt := 312) (by decide) ?_
                            exact ih312 S346 H locs ls  hX hS (lv_sub hl [0, 1, 2] rfl) h
                  exact L312 600 S311 H locs ls  hX hS (lv_sub hl [1, 4, 0] rfl) h
                · rw [if_pos hc] at h
                  refine lv_aload_n hx hb d_m_readRule_236 rfl (lv_at hl 0 rfl) ?_
                  refine m_get_0_27 hx hb hts hown hC hX (by rfl) (hts _ t_1014) d_m_readRule_237 ?_
                  refine lv_iload hx hb d_m_readRule_240 (lv_at hl 3 rfl) ?_
                  refine lv_aload_n hx hb d_m_readRule_242 rfl (lv_at hl 0 rfl) ?_
                  obtain ⟨q243, hc243, h⟩ := Option.bind_eq_some_iff.mp h
                  refine ck_V (As := []) (rest := [.int a52, .ref (b + 278)]) (st1 := [.int q243.2, .int a52, .ref (b + 278)]) (M_m_readClassName  hc243) t_1218 t_1220 p_50 t_1221 t_13 hx hb hts hown hC hX hS (hrc_m0 hC hX (by rfl)) hml hl.1 ⟨by rw [hRf]; decide, by rw [hRl]; decide⟩ ⟨rfl, rfl⟩ (n := 0) (by decide +kernel) rfl rfl rfl (lv_room (Nat.le_of_ble_eq_true rfl)) d_m_readRule_243 (fun H locs hX hS => ?_)
                  by_cases hg246 : inbd a52 48 = true
                  rotate_left; · rw [if_neg hg246] at h; cases h
                  rw [if_pos hg246] at h
                  refine m_ast_1 (k := 16) (v := q243.2) hx hb hC hX hS (by rfl) hg246 d_m_readRule_246 (fun H locs hX hS => ?_)
                  obtain ⟨S246, e246, h⟩ := bd_some h
                  rw [← e246] at hX
                  refine lv_aload_n hx hb d_m_readRule_247 rfl (lv_at hl 0 rfl) ?_
                  obtain ⟨q248, hc248, h⟩ := Option.bind_eq_some_iff.mp h
                  refine ck_V (As := []) (rest := []) (st1 := [.int (bI q248.2)]) (M_m_isName  hc248) t_1202 t_1204 p_47 t_1205 t_13 hx hb hts hown hC hX hS (hrc_m0 hC hX (by rfl)) hml hl.1 ⟨by rw [hRf]; decide, by rw [hRl]; decide⟩ ⟨rfl, rfl⟩ (n := 0) (by decide +kernel) rfl rfl rfl (lv_room (Nat.le_of_ble_eq_true rfl)) d_m_readRule_248 (fun H locs hX hS => ?_)
                  have J271 : ∀ (S_271 : MS) (H : Heap) (locs : List Loc) (ls : Array Slot), hp D cA b ad (T, S_271, o) H → va_S (Ab b) s.heap H locs → lv_has ls 7 [(0, .ref (b + 262)), (5, .int a52)] → m_readRule_J271 a52 S_271 = some rr → W p l e R s m args below meth c H locs 0 0 Q (F0 m 271 ls []) := by
                    intro S_271 H locs ls  hX hS hl h
                    rw [m_readRule_J271] at h
                    refine lv_aload_n hx hb d_m_readRule_271 rfl (lv_at hl 0 rfl) ?_
                    refine m_get_0_28 hx hb hts hown hC hX (by rfl) (hts _ t_1015) d_m_readRule_272 ?_
                    refine lv_iload hx hb d_m_readRule_275 (lv_at hl 1 rfl) ?_
                    by_cases hg277 : inbd a52 48 = true
                    rotate_left; · rw [if_neg hg277] at h; cases h
                    rw [if_pos hg277] at h
                    refine m_ald_1 (k := 17) hx hb hC hX (by rfl) hg277 d_m_readRule_277 ?_
                    have J286 : ∀ (S_286 : MS) (H : Heap) (locs : List Loc) (ls : Array Slot), hp D cA b ad (T, S_286, o) H → va_S (Ab b) s.heap H locs → lv_has ls 7 [(0, .ref (b + 262))] → m_readRule_J286 S_286 = some rr → W p l e R s m args below meth c H locs 0 0 Q (F0 m 286 ls []) := by
                      intro S_286 H locs ls  hX hS hl h
                      rw [m_readRule_J286] at h
                      refine lv_aload_n hx hb d_m_readRule_286 rfl (lv_at hl 0 rfl) ?_
                      obtain ⟨q287, hc287, h⟩ := Option.bind_eq_some_iff.mp h
                      refine ck_V (As := []) (rest := []) (st1 := []) (M_m_next  hc287) t_1149 t_1151 p_39 t_1152 t_13 hx hb hts hown hC hX hS (hrc_m0 hC hX (by rfl)) hml hl.1 ⟨by rw [hRf]; decide, by rw [hRl]; decide⟩ ⟨rfl, rfl⟩ (n := 0) (by decide +kernel) rfl rfl rfl (lv_room (Nat.le_of_ble_eq_true rfl)) d_m_readRule_287 (fun H locs hX hS => ?_)
                      refine lv_goto hx hb d_m_readRule_290 (tgt := 367) (by decide) ?_
                      exact J367 q287 H locs ls  hX hS (lv_sub hl [0] rfl) h
                    refine lv_if_ge hx hb d_m_readRule_278 (tgt := 286) (by decide) (fun hc => ?_) (fun hc => ?_)
                    · rw [if_pos hc] at h
                      exact J286 S_271 H locs ls  hX hS (lv_sub hl [0] rfl) h
                    · rw [if_neg hc] at h
                      refine lv_aload_n hx hb d_m_readRule_281 rfl (lv_at hl 0 rfl) ?_
                      refine lv_iconst (v := 2) hx hb d_m_readRule_282 (by decide) ?_
                      obtain ⟨q283, hc283, h⟩ := Option.bind_eq_some_iff.mp h
                      refine ck_V (As := [.int 2]) (rest := []) (st1 := []) (M_m_fail  hc283) t_1159 t_1161 p_40 t_1162 t_13 hx hb hts hown hC hX hS (hrc_m0 hC hX (by rfl)) hml hl.1 ⟨by rw [hRf]; decide, by rw [hRl]; decide⟩ ⟨rfl, rfl⟩ (n := 1) (by decide +kernel) rfl rfl rfl (lv_room (Nat.le_of_ble_eq_true rfl)) d_m_readRule_283 (fun H locs hX hS => ?_)
                      exact J286 q283 H locs ls  hX hS (lv_sub hl [0] rfl) h
                  refine lz_ifeq hx hb d_m_readRule_251 (tgt := 271) (by decide) (fun hc => ?_) (fun hc => ?_)
                  · rw [if_neg hc] at h
                    exact J271 q248.1 H locs ls  hX hS (lv_sub hl [0, 3] rfl) h
                  · rw [if_pos hc] at h
                    refine lv_aload_n hx hb d_m_readRule_254 rfl (lv_at hl 0 rfl) ?_
                    refine m_get_0_28 hx hb hts hown hC hX (by rfl) (hts _ t_1015) d_m_readRule_255 ?_
                    refine lv_iload hx hb d_m_readRule_258 (lv_at hl 3 rfl) ?_
                    refine lv_aload_n hx hb d_m_readRule_260 rfl (lv_at hl 0 rfl) ?_
                    refine lv_iload hx hb d_m_readRule_261 (lv_at hl 2 rfl) ?_
                    refine lv_aload_n hx hb d_m_readRule_263 rfl (lv_at hl 0 rfl) ?_
                    refine m_get_0_11 hx hb hts hown hC hX (by rfl) (hts _ t_998) d_m_readRule_264 ?_
                    obtain ⟨q267, hc267, h⟩ := Option.bind_eq_some_iff.mp h
                    refine ck_V (As := [.int q1, .long (gL q248.1 0 11)]) (rest := [.int a52, .ref (b + 279)]) (st1 := [.int q267, .int a52, .ref (b + 279)]) (M_m_typeOf  hc267) t_1206 t_1208 p_48 t_1209 t_13 hx hb hts hown hC hX hS (hrc_m0 hC hX (by rfl)) hml hl.1 ⟨by rw [hRf]; decide, by rw [hRl]; decide⟩ ⟨rfl, rfl⟩ (n := 2) (by decide +kernel) rfl rfl rfl (lv_room (Nat.le_of_ble_eq_true rfl)) d_m_readRule_267 (fun H locs hX hS => ?_)
                    by_cases hg270 : inbd a52 48 = true
                    rotate_left; · rw [if_neg hg270] at h; cases h
                    rw [if_pos hg270] at h
                    refine m_ast_1 (k := 17) (v := q267) hx hb hC hX hS (by rfl) hg270 d_m_readRule_270 (fun H locs hX hS => ?_)
                    obtain ⟨S270, e270, h⟩ := bd_some h
                    rw [← e270] at hX
                    exact J271 S270 H locs ls  hX hS (lv_sub hl [0, 3] rfl) h
              refine lz_ifeq hx hb d_m_readRule_205 (tgt := 215) (by decide) (fun hc => ?_) (fun hc => ?_)
              · rw [if_neg hc] at h
                refine lv_aload_n hx hb d_m_readRule_215 rfl (lv_at hl 0 rfl) ?_
                refine lv_iconst (v := 2) hx hb d_m_readRule_216 (by decide) ?_
                refine lv_iload hx hb d_m_readRule_217 (lv_at hl 3 rfl) ?_
                refine lv_imul hx hb d_m_readRule_219 ?_
                refine lv_iconst (v := 1) hx hb d_m_readRule_220 (by decide) ?_
                refine lv_iadd hx hb d_m_readRule_221 ?_
                obtain ⟨q222, hc222, h⟩ := Option.bind_eq_some_iff.mp h
                refine ck_V (As := [.int ((2 * a52) + 1)]) (rest := []) (st1 := []) (M_m_readSet  hc222) t_1184 t_1186 p_43 t_1187 t_13 hx hb hts hown hC hX hS (hrc_m0 hC hX (by rfl)) hml hl.1 ⟨by rw [hRf]; decide, by rw [hRl]; decide⟩ ⟨rfl, rfl⟩ (n := 1) (by decide +kernel) rfl rfl rfl (lv_room (Nat.le_of_ble_eq_true rfl)) d_m_readRule_222 (fun H locs hX hS => ?_)
                exact J225 q222 H locs ls  hX hS (lv_sub hl [0, 1, 2, 3] rfl) h
              · rw [if_pos hc] at h
                refine lv_aload_n hx hb d_m_readRule_208 rfl (lv_at hl 0 rfl) ?_
                obtain ⟨q209, hc209, h⟩ := Option.bind_eq_some_iff.mp h
                refine ck_V (As := []) (rest := []) (st1 := []) (M_m_next  hc209) t_1149 t_1151 p_39 t_1152 t_13 hx hb hts hown hC hX hS (hrc_m0 hC hX (by rfl)) hml hl.1 ⟨by rw [hRf]; decide, by rw [hRl]; decide⟩ ⟨rfl, rfl⟩ (n := 0) (by decide +kernel) rfl rfl rfl (lv_room (Nat.le_of_ble_eq_true rfl)) d_m_readRule_209 (fun H locs hX hS => ?_)
                refine lv_goto hx hb d_m_readRule_212 (tgt := 225) (by decide) ?_
                exact J225 q209 H locs ls  hX hS (lv_sub hl [0, 1, 2, 3] rfl) h
            have J196 : ∀  (H : Heap) (locs : List Loc) (ls : Array Slot), hp D cA b ad (T, q157, o) H → va_S (Ab b) s.heap H locs → lv_has ls 7 [(0, .ref (b + 262)), (1, .int x1), (4, .int q1), (5, .int a52)] → m_readRule_J196 x1 q1 a52 a52 q157 = some rr → W p l e R s m args below meth c H locs 0 0 Q (F0 m 196 ls [.int a52, .ref (b + 281)]) := by
              intro  H locs ls  hX hS hl h
              rw [m_readRule_J196] at h
              refine lv_iconst (v := 0) hx hb d_m_readRule_196 (by decide) ?_
              exact J197 false H locs ls  hX hS (lv_sub hl [0, 1, 2, 3] rfl) h
            refine lv_if_ne hx hb d_m_readRule_170 (tgt := 196) (by decide) (fun hc => ?_) (fun hc => ?_)
            · rw [if_neg hc] at h
              exact J196  H locs ls  hX hS (lv_sub hl [0, 1, 2, 3] rfl) h
            · rw [if_pos hc] at h
              refine lv_aload_n hx hb d_m_readRule_173 rfl (lv_at hl 0 rfl) ?_
              refine m_get_0_5 hx hb hts hown hC hX (by rfl) (hts _ t_992) d_m_readRule_174 ?_
              refine lv_iconst (v := 1) hx hb d_m_readRule_177 (by decide) ?_
              refine lv_icmp_ne hx hb d_m_readRule_178 (tgt := 196) (by decide) (fun hc => ?_) (fun hc => ?_)
              · rw [if_neg hc] at h
                exact J196  H locs ls  hX hS (lv_sub hl [0, 1, 2, 3] rfl) h
              · rw [if_pos hc] at h
                refine lv_aload_n hx hb d_m_readRule_181 rfl (lv_at hl 0 rfl) ?_
                refine m_get_0_11 hx hb hts hown hC hX (by rfl) (hts _ t_998) d_m_readRule_182 ?_
                refine lv_ldc2 (v := 5001990) hx hb hown (hts _ t_1217) d_m_readRule_185 ?_
                refine lx_ifne hx hb d_m_readRule_188 d_m_readRule_189 (tgt := 196) (by decide) (fun hc => ?_) (fun hc => ?_)
                · rw [if_neg hc] at h
                  exact J196  H locs ls  hX hS (lv_sub hl [0, 1, 2, 3] rfl) h
                · rw [if_pos hc] at h
                  refine lv_iconst (v := 1) hx hb d_m_readRule_192 (by decide) ?_
                  refine lv_goto hx hb d_m_readRule_193 (tgt := 197) (by decide) ?_
                  exact J197 true H locs ls  hX hS (lv_sub hl [0, 1, 2, 3] rfl) h
          · rw [if_neg hc] at h
            refine lv_aload_n hx hb d_m_readRule_129 rfl (lv_at hl 0 rfl) ?_
            refine m_get_0_31 hx hb hts hown hC hX (by rfl) (hts _ t_1018) d_m_readRule_130 ?_
            refine lv_iconst (v := 4) hx hb d_m_readRule_133 (by decide) ?_
            refine lv_iload hx hb d_m_readRule_134 (lv_at hl 3 rfl) ?_
            refine lv_imul hx hb d_m_readRule_136 ?_
            refine lv_iload hx hb d_m_readRule_137 (lv_at hl 4 rfl) ?_
            refine lv_iadd hx hb d_m_readRule_139 ?_
            refine lv_iconst (v := 0) hx hb d_m_readRule_140 (by decide) ?_
            by_cases hg141 : inbd ((4 * a52) + v6_123) 192 = true
            rotate_left; · rw [if_neg hg141] at h; cases h
            rw [if_pos hg141] at h
            refine m_ast_1 (k := 20) (v := 0) hx hb hC hX hS (by rfl) hg141 d_m_readRule_141 (fun H locs hX hS => ?_)
            obtain ⟨S141, e141, h⟩ := bd_some h
            rw [← e141] at hX
            obtain ⟨a142, e142, h⟩ := bd_some h
            refine lv_iinc (v := a142) (lv' := [(6, .int a142), (0, .ref (b + 262)), (1, .int x1), (4, .int q1), (5, .int a52)]) hx hb d_m_readRule_142 hl (k := 4) rfl e142.symm (by decide) rfl (fun ls hl => ?_)
            refine lv_goto hx hb d_m_readRule_145 (tgt := 123) (by decide) ?_
            exact ih123 a142 S141 H locs ls  hX hS (lv_sub hl [1, 2, 3, 4, 0] rfl) h
      exact L123 600 0 S119 H locs ls  hX hS (lv_sub hl [2, 3, 6, 1, 0] rfl) h
    · rw [if_neg hc] at h
      obtain rfl := Option.some.inj h
      exact rt_v hQ hx hb hr hX hS hlk d_m_readRule_34
  refine lv_icmp_ne hx hb d_m_readRule_19 (tgt := 27) (by decide) (fun hc => ?_) (fun hc => ?_)
  · rw [if_neg hc] at h
    exact J27 S H locs ls  hX hS (lv_sub hl [1, 2, 3, 4, 0] rfl) h
  · rw [if_pos hc] at h
    refine lv_aload_n hx hb d_m_readRule_22 rfl (lv_at hl 1 rfl) ?_
    refine lv_iconst (v := 4) hx hb d_m_readRule_23 (by decide) ?_
    obtain ⟨q24, hc24, h⟩ := Option.bind_eq_some_iff.mp h
    refine ck_V (As := [.int 4]) (rest := []) (st1 := []) (M_m_fail  hc24) t_1159 t_1161 p_40 t_1162 t_13 hx hb hts hown hC hX hS (hrc_m0 hC hX (by rfl)) hml hl.1 ⟨by rw [hRf]; decide, by rw [hRl]; decide⟩ ⟨rfl, rfl⟩ (n := 1) (by decide +kernel) rfl rfl rfl (lv_room (Nat.le_of_ble_eq_true rfl)) d_m_readRule_24 (fun H locs hX hS => ?_)
    exact J27 q24 H locs ls  hX hS (lv_sub hl [1, 2, 3, 4, 0] rfl) h
abbrev y_m_ruleKind : MethodName := ({ cls := "TypeGuardModel", name := "ruleKind", desc := "(J)I" } : Jvm.MethodName)
theorem d_m_ruleKind_0 : decode prog_14_method_28_code 0 = .ok (.lload_n 0, 1) := by decide +kernel
theorem d_m_ruleKind_1 : decode prog_14_method_28_code 1 = .ok (.ldc2_w 169, 3) := by decide +kernel
theorem d_m_ruleKind_4 : decode prog_14_method_28_code 4 = .ok (.lcmp, 1) := by decide +kernel
theorem d_m_ruleKind_5 : decode prog_14_method_28_code 5 = .ok (.ifCond .ne 7, 3) := by decide +kernel
theorem d_m_ruleKind_8 : decode prog_14_method_28_code 8 = .ok (.iconst 0, 1) := by decide +kernel
theorem d_m_ruleKind_9 : decode prog_14_method_28_code 9 = .ok (.goto 52, 3) := by decide +kernel
theorem d_m_ruleKind_12 : decode prog_14_method_28_code 12 = .ok (.lload_n 0, 1) := by decide +kernel
theorem d_m_ruleKind_13 : decode prog_14_method_28_code 13 = .ok (.ldc2_w 171, 3) := by decide +kernel
theorem d_m_ruleKind_16 : decode prog_14_method_28_code 16 = .ok (.lcmp, 1) := by decide +kernel
theorem d_m_ruleKind_17 : decode prog_14_method_28_code 17 = .ok (.ifCond .ne 7, 3) := by decide +kernel
theorem d_m_ruleKind_20 : decode prog_14_method_28_code 20 = .ok (.iconst 1, 1) := by decide +kernel
theorem d_m_ruleKind_21 : decode prog_14_method_28_code 21 = .ok (.goto 40, 3) := by decide +kernel
theorem d_m_ruleKind_24 : decode prog_14_method_28_code 24 = .ok (.lload_n 0, 1) := by decide +kernel
theorem d_m_ruleKind_25 : decode prog_14_method_28_code 25 = .ok (.ldc2_w 173, 3) := by decide +kernel
theorem d_m_ruleKind_28 : decode prog_14_method_28_code 28 = .ok (.lcmp, 1) := by decide +kernel
theorem d_m_ruleKind_29 : decode prog_14_method_28_code 29 = .ok (.ifCond .ne 7, 3) := by decide +kernel
theorem d_m_ruleKind_32 : decode prog_14_method_28_code 32 = .ok (.iconst 2, 1) := by decide +kernel
theorem d_m_ruleKind_33 : decode prog_14_method_28_code 33 = .ok (.goto 28, 3) := by decide +kernel
theorem d_m_ruleKind_36 : decode prog_14_method_28_code 36 = .ok (.lload_n 0, 1) := by decide +kernel
theorem d_m_ruleKind_37 : decode prog_14_method_28_code 37 = .ok (.ldc2_w 175, 3) := by decide +kernel
theorem d_m_ruleKind_40 : decode prog_14_method_28_code 40 = .ok (.lcmp, 1) := by decide +kernel
theorem d_m_ruleKind_41 : decode prog_14_method_28_code 41 = .ok (.ifCond .ne 7, 3) := by decide +kernel
theorem d_m_ruleKind_44 : decode prog_14_method_28_code 44 = .ok (.iconst 3, 1) := by decide +kernel
theorem d_m_ruleKind_45 : decode prog_14_method_28_code 45 = .ok (.goto 16, 3) := by decide +kernel
theorem d_m_ruleKind_48 : decode prog_14_method_28_code 48 = .ok (.lload_n 0, 1) := by decide +kernel
theorem d_m_ruleKind_49 : decode prog_14_method_28_code 49 = .ok (.ldc2_w 177, 3) := by decide +kernel
theorem d_m_ruleKind_52 : decode prog_14_method_28_code 52 = .ok (.lcmp, 1) := by decide +kernel
theorem d_m_ruleKind_53 : decode prog_14_method_28_code 53 = .ok (.ifCond .ne 7, 3) := by decide +kernel
theorem d_m_ruleKind_56 : decode prog_14_method_28_code 56 = .ok (.iconst 4, 1) := by decide +kernel
theorem d_m_ruleKind_57 : decode prog_14_method_28_code 57 = .ok (.goto 4, 3) := by decide +kernel
theorem d_m_ruleKind_60 : decode prog_14_method_28_code 60 = .ok (.iconst (-1), 1) := by decide +kernel
theorem d_m_ruleKind_61 : decode prog_14_method_28_code 61 = .ok (.ireturn, 1) := by decide +kernel
def m_ruleKind (x0 : Int64) : Option Int32 := (if x0 = 19973079 then some 0 else (if x0 = 22299220 then some 1 else (if x0 = 2184392 then some 2 else (if x0 = 236282194 then some 3 else (if x0 = 3470725 then some 4 else some (-1))))))
set_option maxHeartbeats 4000000 in
set_option maxRecDepth 100000 in
theorem M_m_ruleKind {l : Launch} {D : va_G} {cA : Nat → ClassId} {b : Nat} {ad : Nat → Nat} {x0 : Int64} {S : MS} {T : CS} {o : Nat → Int64} {rr : Int32}  (h : m_ruleKind x0 = some rr) : Met l y_m_ruleKind (Cond.code y_m_ruleKind prog_14_method_28_code 2 (Option.some Jvm.ClassFile.FieldType.int) :: TW) { frames := 0, cells := 0, slots := 0, locals := 0 } (va_Pc [.long x0] (Rp D cA b ad (T, S, o))) (Qr D cA b ad (T, S, o) (some (.int rr))) 0 0 (Ab b) := by
  refine Ct_of (by decide) (Nat.le_of_ble_eq_true rfl) ?_
  intro p e R s m args below meth c ls Q H locs hR hQ hx hb hts hown hml hr hlk hC hX hS hl
  have hRf : R.frames = 0 := by rw [hR]
  have hRl : R.locals = 0 := by rw [hR]
  have hown : s.vm.findClass "TypeGuardModel" = some m.cls := hown
  have hl : lv_has ls 2 [(0, .long x0)] := hl
  rw [m_ruleKind] at h
  refine lv_lload_n hx hb d_m_ruleKind_0 rfl (lv_at hl 0 rfl) ?_
  refine lv_ldc2 (v := 19973079) hx hb hown (hts _ t_1170) d_m_ruleKind_1 ?_
  refine lx_ifne hx hb d_m_ruleKind_4 d_m_ruleKind_5 (tgt := 12) (by decide) (fun hc => ?_) (fun hc => ?_)
  · rw [if_neg hc] at h
    refine lv_lload_n hx hb d_m_ruleKind_12 rfl (lv_at hl 0 rfl) ?_
    refine lv_ldc2 (v := 22299220) hx hb hown (hts _ t_1171) d_m_ruleKind_13 ?_
    refine lx_ifne hx hb d_m_ruleKind_16 d_m_ruleKind_17 (tgt := 24) (by decide) (fun hc => ?_) (fun hc => ?_)
    · rw [if_neg hc] at h
      refine lv_lload_n hx hb d_m_ruleKind_24 rfl (lv_at hl 0 rfl) ?_
      refine lv_ldc2 (v := 2184392) hx hb hown (hts _ t_1172) d_m_ruleKind_25 ?_
      refine lx_ifne hx hb d_m_ruleKind_28 d_m_ruleKind_29 (tgt := 36) (by decide) (fun hc => ?_) (fun hc => ?_)
      · rw [if_neg hc] at h
        refine lv_lload_n hx hb d_m_ruleKind_36 rfl (lv_at hl 0 rfl) ?_
        refine lv_ldc2 (v := 236282194) hx hb hown (hts _ t_1173) d_m_ruleKind_37 ?_
        refine lx_ifne hx hb d_m_ruleKind_40 d_m_ruleKind_41 (tgt := 48) (by decide) (fun hc => ?_) (fun hc => ?_)
        · rw [if_neg hc] at h
          refine lv_lload_n hx hb d_m_ruleKind_48 rfl (lv_at hl 0 rfl) ?_
          refine lv_ldc2 (v := 3470725) hx hb hown (hts _ t_1174) d_m_ruleKind_49 ?_
          refine lx_ifne hx hb d_m_ruleKind_52 d_m_ruleKind_53 (tgt := 60) (by decide) (fun hc => ?_) (fun hc => ?_)
          · rw [if_neg hc] at h
            refine lv_iconst (v := (-1)) hx hb d_m_ruleKind_60 (by decide) ?_
            obtain rfl := Option.some.inj h
            exact rt_i hQ hx hb hr hX hS hlk d_m_ruleKind_61
          · rw [if_pos hc] at h
            refine lv_iconst (v := 4) hx hb d_m_ruleKind_56 (by decide) ?_
            refine lv_goto hx hb d_m_ruleKind_57 (tgt := 61) (by decide) ?_
            obtain rfl := Option.some.inj h
            exact rt_i hQ hx hb hr hX hS hlk d_m_ruleKind_61
        · rw [if_pos hc] at h
          refine lv_iconst (v := 3) hx hb d_m_ruleKind_44 (by decide) ?_
          refine lv_goto hx hb d_m_ruleKind_45 (tgt := 61) (by decide) ?_
          obtain rfl := Option.some.inj h
          exact rt_i hQ hx hb hr hX hS hlk d_m_ruleKind_61
      · rw [if_pos hc] at h
        refine lv_iconst (v := 2) hx hb d_m_ruleKind_32 (by decide) ?_
        refine lv_goto hx hb d_m_ruleKind_33 (tgt := 61) (by decide) ?_
        obtain rfl := Option.some.inj h
        exact rt_i hQ hx hb hr hX hS hlk d_m_ruleKind_61
    · rw [if_pos hc] at h
      refine lv_iconst (v := 1) hx hb d_m_ruleKind_20 (by decide) ?_
      refine lv_goto hx hb d_m_ruleKind_21 (tgt := 61) (by decide) ?_
      obtain rfl := Option.some.inj h
      exact rt_i hQ hx hb hr hX hS hlk d_m_ruleKind_61
  · rw [if_pos hc] at h
    refine lv_iconst (v := 0) hx hb d_m_ruleKind_8 (by decide) ?_
    refine lv_goto hx hb d_m_ruleKind_9 (tgt := 61) (by decide) ?_
    obtain rfl := Option.some.inj h
    exact rt_i hQ hx hb hr hX hS hlk d_m_ruleKind_61
abbrev y_m_readSide : MethodName := ({ cls := "TypeGuardModel", name := "readSide", desc := "(IZ)V" } : Jvm.MethodName)
theorem d_m_readSide_0 : decode prog_14_method_29_code 0 = .ok (.aload_n 0, 1) := by decide +kernel
theorem d_m_readSide_1 : decode prog_14_method_29_code 1 = .ok (.bipush 123, 2) := by decide +kernel
theorem d_m_readSide_3 : decode prog_14_method_29_code 3 = .ok (.invokevirtual 212, 3) := by decide +kernel
theorem d_m_readSide_6 : decode prog_14_method_29_code 6 = .ok (.aload_n 0, 1) := by decide +kernel
theorem d_m_readSide_7 : decode prog_14_method_29_code 7 = .ok (.getfield 109, 3) := by decide +kernel
theorem d_m_readSide_10 : decode prog_14_method_29_code 10 = .ok (.ifCond .ne 59, 3) := by decide +kernel
theorem d_m_readSide_13 : decode prog_14_method_29_code 13 = .ok (.aload_n 0, 1) := by decide +kernel
theorem d_m_readSide_14 : decode prog_14_method_29_code 14 = .ok (.bipush 125, 2) := by decide +kernel
theorem d_m_readSide_16 : decode prog_14_method_29_code 16 = .ok (.invokevirtual 145, 3) := by decide +kernel
theorem d_m_readSide_19 : decode prog_14_method_29_code 19 = .ok (.ifCond .ne 50, 3) := by decide +kernel
theorem d_m_readSide_22 : decode prog_14_method_29_code 22 = .ok (.aload_n 0, 1) := by decide +kernel
theorem d_m_readSide_23 : decode prog_14_method_29_code 23 = .ok (.getfield 128, 3) := by decide +kernel
theorem d_m_readSide_26 : decode prog_14_method_29_code 26 = .ok (.iconst 1, 1) := by decide +kernel
theorem d_m_readSide_27 : decode prog_14_method_29_code 27 = .ok (.if_icmp .ne 13, 3) := by decide +kernel
theorem d_m_readSide_30 : decode prog_14_method_29_code 30 = .ok (.aload_n 0, 1) := by decide +kernel
theorem d_m_readSide_31 : decode prog_14_method_29_code 31 = .ok (.getfield 134, 3) := by decide +kernel
theorem d_m_readSide_34 : decode prog_14_method_29_code 34 = .ok (.invokestatic 232, 3) := by decide +kernel
theorem d_m_readSide_37 : decode prog_14_method_29_code 37 = .ok (.goto 4, 3) := by decide +kernel
theorem d_m_readSide_40 : decode prog_14_method_29_code 40 = .ok (.iconst (-1), 1) := by decide +kernel
theorem d_m_readSide_41 : decode prog_14_method_29_code 41 = .ok (.istore_n 3, 1) := by decide +kernel
theorem d_m_readSide_42 : decode prog_14_method_29_code 42 = .ok (.iload_n 3, 1) := by decide +kernel
theorem d_m_readSide_43 : decode prog_14_method_29_code 43 = .ok (.ifCond .lt 8, 3) := by decide +kernel
theorem d_m_readSide_46 : decode prog_14_method_29_code 46 = .ok (.iload_n 3, 1) := by decide +kernel
theorem d_m_readSide_47 : decode prog_14_method_29_code 47 = .ok (.iconst 2, 1) := by decide +kernel
theorem d_m_readSide_48 : decode prog_14_method_29_code 48 = .ok (.if_icmp .le 11, 3) := by decide +kernel
theorem d_m_readSide_51 : decode prog_14_method_29_code 51 = .ok (.aload_n 0, 1) := by decide +kernel
theorem d_m_readSide_52 : decode prog_14_method_29_code 52 = .ok (.iconst 1, 1) := by decide +kernel
theorem d_m_readSide_53 : decode prog_14_method_29_code 53 = .ok (.invokevirtual 141, 3) := by decide +kernel
theorem d_m_readSide_56 : decode prog_14_method_29_code 56 = .ok (.goto 10, 3) := by decide +kernel
theorem d_m_readSide_59 : decode prog_14_method_29_code 59 = .ok (.aload_n 0, 1) := by decide +kernel
theorem d_m_readSide_60 : decode prog_14_method_29_code 60 = .ok (.iload_n 3, 1) := by decide +kernel
theorem d_m_readSide_61 : decode prog_14_method_29_code 61 = .ok (.iload_n 1, 1) := by decide +kernel
theorem d_m_readSide_62 : decode prog_14_method_29_code 62 = .ok (.iload_n 2, 1) := by decide +kernel
theorem d_m_readSide_63 : decode prog_14_method_29_code 63 = .ok (.invokevirtual 236, 3) := by decide +kernel
theorem d_m_readSide_66 : decode prog_14_method_29_code 66 = .ok (.goto (-60), 3) := by decide +kernel
theorem d_m_readSide_69 : decode prog_14_method_29_code 69 = .ok (.aload_n 0, 1) := by decide +kernel
theorem d_m_readSide_70 : decode prog_14_method_29_code 70 = .ok (.bipush 125, 2) := by decide +kernel
theorem d_m_readSide_72 : decode prog_14_method_29_code 72 = .ok (.invokevirtual 212, 3) := by decide +kernel
theorem d_m_readSide_75 : decode prog_14_method_29_code 75 = .ok (.return_, 1) := by decide +kernel
def m_readSide_J69 (S_69 : MS) : Option MS := ((m_must 125 S_69).bind fun q72 => some q72)
def m_readSide_J51 (kO6 : MS → Option MS) (v1_51 : Int32) (v2_51 : Bool) (S_51 : MS) : Option MS := ((m_fail 1 S_51).bind fun q53 => kO6 q53)
def m_readSide_J41 (kO6 : MS → Option MS) (v1_41 : Int32) (v2_41 : Bool) (s0_41 : Int32) (S_41 : MS) : Option MS := (if s0_41 < 0 then m_readSide_J51 kO6 v1_41 v2_41 S_41 else (if s0_41 ≤ 2 then ((m_readRule s0_41 v1_41 v2_41 S_41).bind fun q63 => kO6 q63) else m_readSide_J51 kO6 v1_41 v2_41 S_41))
def m_readSide_L6 (v1_6 : Int32) (v2_6 : Bool) : Nat → MS → Option MS
  | 0, _ => none
  | n + 1, S_6 => (if (gI S_6 0 7) = 0 then ((m_is 125 S_6).bind fun q16 => (if q16 = true then m_readSide_J69 S_6 else (if (gI S_6 0 5) = 1 then ((m_ruleKind (gL S_6 0 11)).bind fun q34 => m_readSide_J41 (m_readSide_L6 v1_6 v2_6 n) v1_6 v2_6 q34 S_6) else m_readSide_J41 (m_readSide_L6 v1_6 v2_6 n) v1_6 v2_6 (-1) S_6))) else m_readSide_J69 S_6)
def m_readSide (x1 : Int32) (x2 : Bool) (S : MS) : Option MS := ((m_must 123 S).bind fun q3 => m_readSide_L6 x1 x2 600 q3)
set_option maxHeartbeats 4000000 in
set_option maxRecDepth 100000 in
theorem M_m_readSide {l : Launch} {D : va_G} {cA : Nat → ClassId} {b : Nat} {ad : Nat → Nat} {x1 : Int32} {x2 : Bool} {S : MS} {T : CS} {o : Nat → Int64} {rr : MS}  (h : m_readSide x1 x2 S = some rr) : Met l y_m_readSide (Cond.code y_m_readSide prog_14_method_29_code 4 (Option.none : Option Jvm.ClassFile.FieldType) :: TW) { frames := 7, cells := 0, slots := 0, locals := 157 } (va_Pc [.ref (b + 262), .int x1, .int (bI x2)] (Rp D cA b ad (T, S, o))) (Qr D cA b ad (T, rr, o) none) 0 0 (Ab b) := by
  refine Ct_of (by decide) (Nat.le_of_ble_eq_true rfl) ?_
  intro p e R s m args below meth c ls Q H locs hR hQ hx hb hts hown hml hr hlk hC hX hS hl
  have hRf : R.frames = 7 := by rw [hR]
  have hRl : R.locals = 157 := by rw [hR]
  have hown : s.vm.findClass "TypeGuardModel" = some m.cls := hown
  have hl : lv_has ls 4 [(0, .ref (b + 262)), (1, .int x1), (2, .int (bI x2))] := hl
  rw [m_readSide] at h
  refine lv_aload_n hx hb d_m_readSide_0 rfl (lv_at hl 0 rfl) ?_
  refine lv_bipush (v := 123) hx hb d_m_readSide_1 (by decide) ?_
  obtain ⟨q3, hc3, h⟩ := Option.bind_eq_some_iff.mp h
  refine ck_V (As := [.int 123]) (rest := []) (st1 := []) (M_m_must  hc3) t_1213 t_1215 p_49 t_1216 t_13 hx hb hts hown hC hX hS (hrc_m0 hC hX (by rfl)) hml hl.1 ⟨by rw [hRf]; decide, by rw [hRl]; decide⟩ ⟨rfl, rfl⟩ (n := 1) (by decide +kernel) rfl rfl rfl (lv_room (Nat.le_of_ble_eq_true rfl)) d_m_readSide_3 (fun H locs hX hS => ?_)
  have L6 : ∀ (n6 : Nat) (S_6 : MS) (H : Heap) (locs : List Loc) (ls : Array Slot), hp D cA b ad (T, S_6, o) H → va_S (Ab b) s.heap H locs → lv_has ls 4 [(0, .ref (b + 262)), (1, .int x1), (2, .int (bI x2))] → m_readSide_L6 x1 x2 n6 S_6 = some rr → W p l e R s m args below meth c H locs 0 0 Q (F0 m 6 ls []) := by
    intro n6; induction n6 with
    | zero => intro S_6 H locs ls  hX hS hl h; rw [m_readSide_L6] at h; cases h
    | succ n6 ih6 =>
      intro S_6 H locs ls  hX hS hl h
      rw [m_readSide_L6] at h
      refine lv_aload_n hx hb d_m_readSide_6 rfl (lv_at hl 0 rfl) ?_
      refine m_get_0_7 hx hb hts hown hC hX (by rfl) (hts _ t_994) d_m_readSide_7 ?_
      have J69 : ∀  (H : Heap) (locs : List Loc) (ls : Array Slot), hp D cA b ad (T, S_6, o) H → va_S (Ab b) s.heap H locs → lv_has ls 4 [(0, .ref (b + 262))] → m_readSide_J69 S_6 = some rr → W p l e R s m args below meth c H locs 0 0 Q (F0 m 69 ls []) := by
        intro  H locs ls  hX hS hl h
        rw [m_readSide_J69] at h
        refine lv_aload_n hx hb d_m_readSide_69 rfl (lv_at hl 0 rfl) ?_
        refine lv_bipush (v := 125) hx hb d_m_readSide_70 (by decide) ?_
        obtain ⟨q72, hc72, h⟩ := Option.bind_eq_some_iff.mp h
        refine ck_V (As := [.int 125]) (rest := []) (st1 := []) (M_m_must  hc72) t_1213 t_1215 p_49 t_1216 t_13 hx hb hts hown hC hX hS (hrc_m0 hC hX (by rfl)) hml hl.1 ⟨by rw [hRf]; decide, by rw [hRl]; decide⟩ ⟨rfl, rfl⟩ (n := 1) (by decide +kernel) rfl rfl rfl (lv_room (Nat.le_of_ble_eq_true rfl)) d_m_readSide_72 (fun H locs hX hS => ?_)
        obtain rfl := Option.some.inj h
        exact rt_v hQ hx hb hr hX hS hlk d_m_readSide_75
      refine lv_if_ne hx hb d_m_readSide_10 (tgt := 69) (by decide) (fun hc => ?_) (fun hc => ?_)
      · rw [if_neg hc] at h
        exact J69  H locs ls  hX hS (lv_sub hl [0] rfl) h
      · rw [if_pos hc] at h
        refine lv_aload_n hx hb d_m_readSide_13 rfl (lv_at hl 0 rfl) ?_
        refine lv_bipush (v := 125) hx hb d_m_readSide_14 (by decide) ?_
        obtain ⟨q16, hc16, h⟩ := Option.bind_eq_some_iff.mp h
        refine ck_V (As := [.int 125]) (rest := []) (st1 := [.int (bI q16)]) (M_m_is  hc16) t_1192 t_1194 p_45 t_1195 t_13 hx hb hts hown hC hX hS (hrc_m0 hC hX (by rfl)) hml hl.1 ⟨by rw [hRf]; decide, by rw [hRl]; decide⟩ ⟨rfl, rfl⟩ (n := 1) (by decide +kernel) rfl rfl rfl (lv_room (Nat.le_of_ble_eq_true rfl)) d_m_readSide_16 (fun H locs hX hS => ?_)
        refine lz_ifne hx hb d_m_readSide_19 (tgt := 69) (by decide) (fun hc => ?_) (fun hc => ?_)
        · rw [if_pos hc] at h
          exact J69  H locs ls  hX hS (lv_sub hl [0] rfl) h
        · rw [if_neg hc] at h
          refine lv_aload_n hx hb d_m_readSide_22 rfl (lv_at hl 0 rfl) ?_
          refine m_get_0_5 hx hb hts hown hC hX (by rfl) (hts _ t_992) d_m_readSide_23 ?_
          refine lv_iconst (v := 1) hx hb d_m_readSide_26 (by decide) ?_
          have J41 : ∀ (s0_41 : Int32) (H : Heap) (locs : List Loc) (ls : Array Slot), hp D cA b ad (T, S_6, o) H → va_S (Ab b) s.heap H locs → lv_has ls 4 [(0, .ref (b + 262)), (1, .int x1), (2, .int (bI x2))] → m_readSide_J41 (m_readSide_L6 x1 x2 n6) x1 x2 s0_41 S_6 = some rr → W p l e R s m args below meth c H locs 0 0 Q (F0 m 41 ls [.int s0_41]) := by
            intro s0_41 H locs ls  hX hS hl h
            rw [m_readSide_J41] at h
            refine lv_istore_n (lv' := [(3, .int s0_41), (0, .ref (b + 262)), (1, .int x1), (2, .int (bI x2))]) hx hb d_m_readSide_41 rfl hl (by decide) rfl (fun ls hl => ?_)
            refine lv_iload_n hx hb d_m_readSide_42 rfl (lv_at hl 0 rfl) ?_
            have J51 : ∀  (H : Heap) (locs : List Loc) (ls : Array Slot), hp D cA b ad (T, S_6, o) H → va_S (Ab b) s.heap H locs → lv_has ls 4 [(0, .ref (b + 262)), (1, .int x1), (2, .int (bI x2))] → m_readSide_J51 (m_readSide_L6 x1 x2 n6) x1 x2 S_6 = some rr → W p l e R s m args below meth c H locs 0 0 Q (F0 m 51 ls []) := by
              intro  H locs ls  hX hS hl h
              rw [m_readSide_J51] at h
              refine lv_aload_n hx hb d_m_readSide_51 rfl (lv_at hl 0 rfl) ?_
              refine lv_iconst (v := 1) hx hb d_m_readSide_52 (by decide) ?_
              obtain ⟨q53, hc53, h⟩ := Option.bind_eq_some_iff.mp h
              refine ck_V (As := [.int 1]) (rest := []) (st1 := []) (M_m_fail  hc53) t_1159 t_1161 p_40 t_1162 t_13 hx hb hts hown hC hX hS (hrc_m0 hC hX (by rfl)) hml hl.1 ⟨by rw [hRf]; decide, by rw [hRl]; decide⟩ ⟨rfl, rfl⟩ (n := 1) (by decide +kernel) rfl rfl rfl (lv_room (Nat.le_of_ble_eq_true rfl)) d_m_readSide_53 (fun H locs hX hS => ?_)
              refine lv_goto hx hb d_m_readSide_56 (tgt := 66) (by decide) ?_
              refine lv_goto hx hb d_m_readSide_66 (tgt := 6) (by decide) ?_
              exact ih6 q53 H locs ls  hX hS (lv_sub hl [0, 1, 2] rfl) h
            refine lv_if_lt hx hb d_m_readSide_43 (tgt := 51) (by decide) (fun hc => ?_) (fun hc => ?_)
            · rw [if_pos hc] at h
              exact J51  H locs ls  hX hS (lv_sub hl [1, 2, 3] rfl) h
            · rw [if_neg hc] at h
              refine lv_iload_n hx hb d_m_readSide_46 rfl (lv_at hl 0 rfl) ?_
              refine lv_iconst (v := 2) hx hb d_m_readSide_47 (by decide) ?_
              refine lv_icmp_le hx hb d_m_readSide_48 (tgt := 59) (by decide) (fun hc => ?_) (fun hc => ?_)
              · rw [if_pos hc] at h
                refine lv_aload_n hx hb d_m_readSide_59 rfl (lv_at hl 1 rfl) ?_
                refine lv_iload_n hx hb d_m_readSide_60 rfl (lv_at hl 0 rfl) ?_
                refine lv_iload_n hx hb d_m_readSide_61 rfl (lv_at hl 2 rfl) ?_
                refine lv_iload_n hx hb d_m_readSide_62 rfl (lv_at hl 3 rfl) ?_
                obtain ⟨q63, hc63, h⟩ := Option.bind_eq_some_iff.mp h
                refine ck_V (As := [.int s0_41, .int x1, .int (bI x2)]) (rest := []) (st1 := []) (M_m_readRule  hc63) t_1180 t_1182 p_42 t_1183 t_13 hx hb hts hown hC hX hS (hrc_m0 hC hX (by rfl)) hml hl.1 ⟨by rw [hRf]; decide, by rw [hRl]; decide⟩ ⟨rfl, rfl⟩ (n := 3) (by decide +kernel) rfl rfl rfl (lv_room (Nat.le_of_ble_eq_true rfl)) d_m_readSide_63 (fun H locs hX hS => ?_)
                refine lv_goto hx hb d_m_readSide_66 (tgt := 6) (by decide) ?_
                exact ih6 q63 H locs ls  hX hS (lv_sub hl [1, 2, 3] rfl) h
              · rw [if_neg hc] at h
                exact J51  H locs ls  hX hS (lv_sub hl [1, 2, 3] rfl) h
          refine lv_icmp_ne hx hb d_m_readSide_27 (tgt := 40) (by decide) (fun hc => ?_) (fun hc => ?_)
          · rw [if_neg hc] at h
            refine lv_iconst (v := (-1)) hx hb d_m_readSide_40 (by decide) ?_
            exact J41 (-1) H locs ls  hX hS (lv_sub hl [0, 1, 2] rfl) h
          · rw [if_pos hc] at h
            refine lv_aload_n hx hb d_m_readSide_30 rfl (lv_at hl 0 rfl) ?_
            refine m_get_0_11 hx hb hts hown hC hX (by rfl) (hts _ t_998) d_m_readSide_31 ?_
            obtain ⟨q34, hc34, h⟩ := Option.bind_eq_some_iff.mp h
            refine ck_S (As := [.long (gL S_6 0 11)]) (rest := []) (st1 := [.int q34]) (M_m_ruleKind  hc34) t_1167 t_1168 t_1169 t_13 hx hb hts hown hC hX hS  hml hl.1 ⟨by rw [hRf]; decide, by rw [hRl]; decide⟩ ⟨rfl, rfl⟩ (n := 1) (by decide +kernel) rfl rfl rfl (lv_room (Nat.le_of_ble_eq_true rfl)) d_m_readSide_34 (fun H locs hX hS => ?_)
            refine lv_goto hx hb d_m_readSide_37 (tgt := 41) (by decide) ?_
            exact J41 q34 H locs ls  hX hS (lv_sub hl [0, 1, 2] rfl) h
  exact L6 600 q3 H locs ls  hX hS (lv_sub hl [0, 1, 2] rfl) h
abbrev y_m_readIf : MethodName := ({ cls := "TypeGuardModel", name := "readIf", desc := "()V" } : Jvm.MethodName)
theorem d_m_readIf_0 : decode prog_14_method_30_code 0 = .ok (.aload_n 0, 1) := by decide +kernel
theorem d_m_readIf_1 : decode prog_14_method_30_code 1 = .ok (.invokevirtual 193, 3) := by decide +kernel
theorem d_m_readIf_4 : decode prog_14_method_30_code 4 = .ok (.ifCond .ne 4, 3) := by decide +kernel
theorem d_m_readIf_7 : decode prog_14_method_30_code 7 = .ok (.return_, 1) := by decide +kernel
theorem d_m_readIf_8 : decode prog_14_method_30_code 8 = .ok (.aload_n 0, 1) := by decide +kernel
theorem d_m_readIf_9 : decode prog_14_method_30_code 9 = .ok (.getfield 33, 3) := by decide +kernel
theorem d_m_readIf_12 : decode prog_14_method_30_code 12 = .ok (.iconst 3, 1) := by decide +kernel
theorem d_m_readIf_13 : decode prog_14_method_30_code 13 = .ok (.aload_n 0, 1) := by decide +kernel
theorem d_m_readIf_14 : decode prog_14_method_30_code 14 = .ok (.invokevirtual 189, 3) := by decide +kernel
theorem d_m_readIf_17 : decode prog_14_method_30_code 17 = .ok (.imul, 1) := by decide +kernel
theorem d_m_readIf_18 : decode prog_14_method_30_code 18 = .ok (.aload_n 0, 1) := by decide +kernel
theorem d_m_readIf_19 : decode prog_14_method_30_code 19 = .ok (.getfield 17, 3) := by decide +kernel
theorem d_m_readIf_22 : decode prog_14_method_30_code 22 = .ok (.iconst 5, 1) := by decide +kernel
theorem d_m_readIf_23 : decode prog_14_method_30_code 23 = .ok (.aload_n 0, 1) := by decide +kernel
theorem d_m_readIf_24 : decode prog_14_method_30_code 24 = .ok (.invokevirtual 189, 3) := by decide +kernel
theorem d_m_readIf_27 : decode prog_14_method_30_code 27 = .ok (.imul, 1) := by decide +kernel
theorem d_m_readIf_28 : decode prog_14_method_30_code 28 = .ok (.iconst 3, 1) := by decide +kernel
theorem d_m_readIf_29 : decode prog_14_method_30_code 29 = .ok (.iadd, 1) := by decide +kernel
theorem d_m_readIf_30 : decode prog_14_method_30_code 30 = .ok (.iaload, 1) := by decide +kernel
theorem d_m_readIf_31 : decode prog_14_method_30_code 31 = .ok (.aload_n 0, 1) := by decide +kernel
theorem d_m_readIf_32 : decode prog_14_method_30_code 32 = .ok (.getfield 134, 3) := by decide +kernel
theorem d_m_readIf_35 : decode prog_14_method_30_code 35 = .ok (.invokestatic 157, 3) := by decide +kernel
theorem d_m_readIf_38 : decode prog_14_method_30_code 38 = .ok (.istore_n 1, 1) := by decide +kernel
theorem d_m_readIf_39 : decode prog_14_method_30_code 39 = .ok (.iload_n 1, 1) := by decide +kernel
theorem d_m_readIf_40 : decode prog_14_method_30_code 40 = .ok (.ifCond .ge 8, 3) := by decide +kernel
theorem d_m_readIf_43 : decode prog_14_method_30_code 43 = .ok (.aload_n 0, 1) := by decide +kernel
theorem d_m_readIf_44 : decode prog_14_method_30_code 44 = .ok (.iconst 2, 1) := by decide +kernel
theorem d_m_readIf_45 : decode prog_14_method_30_code 45 = .ok (.invokevirtual 141, 3) := by decide +kernel
theorem d_m_readIf_48 : decode prog_14_method_30_code 48 = .ok (.aload_n 0, 1) := by decide +kernel
theorem d_m_readIf_49 : decode prog_14_method_30_code 49 = .ok (.invokevirtual 148, 3) := by decide +kernel
theorem d_m_readIf_52 : decode prog_14_method_30_code 52 = .ok (.aload_n 0, 1) := by decide +kernel
theorem d_m_readIf_53 : decode prog_14_method_30_code 53 = .ok (.iload_n 1, 1) := by decide +kernel
theorem d_m_readIf_54 : decode prog_14_method_30_code 54 = .ok (.iconst 1, 1) := by decide +kernel
theorem d_m_readIf_55 : decode prog_14_method_30_code 55 = .ok (.invokevirtual 240, 3) := by decide +kernel
theorem d_m_readIf_58 : decode prog_14_method_30_code 58 = .ok (.aload_n 0, 1) := by decide +kernel
theorem d_m_readIf_59 : decode prog_14_method_30_code 59 = .ok (.getfield 109, 3) := by decide +kernel
theorem d_m_readIf_62 : decode prog_14_method_30_code 62 = .ok (.ifCond .ne 32, 3) := by decide +kernel
theorem d_m_readIf_65 : decode prog_14_method_30_code 65 = .ok (.aload_n 0, 1) := by decide +kernel
theorem d_m_readIf_66 : decode prog_14_method_30_code 66 = .ok (.getfield 128, 3) := by decide +kernel
theorem d_m_readIf_69 : decode prog_14_method_30_code 69 = .ok (.iconst 1, 1) := by decide +kernel
theorem d_m_readIf_70 : decode prog_14_method_30_code 70 = .ok (.if_icmp .ne 24, 3) := by decide +kernel
theorem d_m_readIf_73 : decode prog_14_method_30_code 73 = .ok (.aload_n 0, 1) := by decide +kernel
theorem d_m_readIf_74 : decode prog_14_method_30_code 74 = .ok (.getfield 134, 3) := by decide +kernel
theorem d_m_readIf_77 : decode prog_14_method_30_code 77 = .ok (.ldc2_w 181, 3) := by decide +kernel
theorem d_m_readIf_80 : decode prog_14_method_30_code 80 = .ok (.lcmp, 1) := by decide +kernel
theorem d_m_readIf_81 : decode prog_14_method_30_code 81 = .ok (.ifCond .ne 13, 3) := by decide +kernel
theorem d_m_readIf_84 : decode prog_14_method_30_code 84 = .ok (.aload_n 0, 1) := by decide +kernel
theorem d_m_readIf_85 : decode prog_14_method_30_code 85 = .ok (.invokevirtual 148, 3) := by decide +kernel
theorem d_m_readIf_88 : decode prog_14_method_30_code 88 = .ok (.aload_n 0, 1) := by decide +kernel
theorem d_m_readIf_89 : decode prog_14_method_30_code 89 = .ok (.iload_n 1, 1) := by decide +kernel
theorem d_m_readIf_90 : decode prog_14_method_30_code 90 = .ok (.iconst 0, 1) := by decide +kernel
theorem d_m_readIf_91 : decode prog_14_method_30_code 91 = .ok (.invokevirtual 240, 3) := by decide +kernel
theorem d_m_readIf_94 : decode prog_14_method_30_code 94 = .ok (.aload_n 0, 1) := by decide +kernel
theorem d_m_readIf_95 : decode prog_14_method_30_code 95 = .ok (.bipush 59, 2) := by decide +kernel
theorem d_m_readIf_97 : decode prog_14_method_30_code 97 = .ok (.invokevirtual 212, 3) := by decide +kernel
theorem d_m_readIf_100 : decode prog_14_method_30_code 100 = .ok (.return_, 1) := by decide +kernel
def m_readIf_J94 (S_94 : MS) : Option MS := ((m_must 59 S_94).bind fun q97 => some q97)
def m_readIf_J48 (v1_48 : Int32) (S_48 : MS) : Option MS := ((m_next S_48).bind fun q49 => ((m_readSide v1_48 true q49).bind fun q55 => (if (gI q55 0 7) = 0 then (if (gI q55 0 5) = 1 then (if (gL q55 0 11) = 1361093 then ((m_next q55).bind fun q85 => ((m_readSide v1_48 false q85).bind fun q91 => m_readIf_J94 q91)) else m_readIf_J94 q55) else m_readIf_J94 q55) else m_readIf_J94 q55)))
def m_readIf (S : MS) : Option MS := ((m_isName S).bind fun q1 => (if q1.2 = true then ((m_own q1.1).bind fun q14 => ((m_own q1.1).bind fun q24 => (if inbd ((5 * q24) + 3) 10 = true then ((m_find 7 (3 * q14) (gI q1.1 2 (txN ((5 * q24) + 3))) (gL q1.1 0 11) q1.1).bind fun q35 => (if 0 ≤ q35 then m_readIf_J48 q35 q1.1 else ((m_fail 2 q1.1).bind fun q45 => m_readIf_J48 q35 q45))) else none))) else some q1.1))
set_option maxHeartbeats 4000000 in
set_option maxRecDepth 100000 in
theorem M_m_readIf {l : Launch} {D : va_G} {cA : Nat → ClassId} {b : Nat} {ad : Nat → Nat}  {S : MS} {T : CS} {o : Nat → Int64} {rr : MS}  (h : m_readIf  S = some rr) : Met l y_m_readIf (Cond.code y_m_readIf prog_14_method_30_code 2 (Option.none : Option Jvm.ClassFile.FieldType) :: TW) { frames := 8, cells := 0, slots := 0, locals := 180 } (va_Pc [.ref (b + 262)] (Rp D cA b ad (T, S, o))) (Qr D cA b ad (T, rr, o) none) 0 0 (Ab b) := by
  refine Ct_of (by decide) (Nat.le_of_ble_eq_true rfl) ?_
  intro p e R s m args below meth c ls Q H locs hR hQ hx hb hts hown hml hr hlk hC hX hS hl
  have hRf : R.frames = 8 := by rw [hR]
  have hRl : R.locals = 180 := by rw [hR]
  have hown : s.vm.findClass "TypeGuardModel" = some m.cls := hown
  have hl : lv_has ls 2 [(0, .ref (b + 262))] := hl
  rw [m_readIf] at h
  refine lv_aload_n hx hb d_m_readIf_0 rfl (lv_at hl 0 rfl) ?_
  obtain ⟨q1, hc1, h⟩ := Option.bind_eq_some_iff.mp h
  refine ck_V (As := []) (rest := []) (st1 := [.int (bI q1.2)]) (M_m_isName  hc1) t_1202 t_1204 p_47 t_1205 t_13 hx hb hts hown hC hX hS (hrc_m0 hC hX (by rfl)) hml hl.1 ⟨by rw [hRf]; decide, by rw [hRl]; decide⟩ ⟨rfl, rfl⟩ (n := 0) (by decide +kernel) rfl rfl rfl (lv_room (Nat.le_of_ble_eq_true rfl)) d_m_readIf_1 (fun H locs hX hS => ?_)
  refine lz_ifne hx hb d_m_readIf_4 (tgt := 8) (by decide) (fun hc => ?_) (fun hc => ?_)
  · rw [if_pos hc] at h
    refine lv_aload_n hx hb d_m_readIf_8 rfl (lv_at hl 0 rfl) ?_
    refine m_get_0_18 hx hb hts hown hC hX (by rfl) (hts _ t_1005) d_m_readIf_9 ?_
    refine lv_iconst (v := 3) hx hb d_m_readIf_12 (by decide) ?_
    refine lv_aload_n hx hb d_m_readIf_13 rfl (lv_at hl 0 rfl) ?_
    obtain ⟨q14, hc14, h⟩ := Option.bind_eq_some_iff.mp h
    refine ck_V (As := []) (rest := [.int 3, .ref (b + 269)]) (st1 := [.int q14, .int 3, .ref (b + 269)]) (M_m_own  hc14) t_1145 t_1147 p_38 t_1148 t_13 hx hb hts hown hC hX hS (hrc_m0 hC hX (by rfl)) hml hl.1 ⟨by rw [hRf]; decide, by rw [hRl]; decide⟩ ⟨rfl, rfl⟩ (n := 0) (by decide +kernel) rfl rfl rfl (lv_room (Nat.le_of_ble_eq_true rfl)) d_m_readIf_14 (fun H locs hX hS => ?_)
    refine lv_imul hx hb d_m_readIf_17 ?_
    refine lv_aload_n hx hb d_m_readIf_18 rfl (lv_at hl 0 rfl) ?_
    refine m_get_0_13 hx hb hts hown hC hX (by rfl) (hts _ t_1000) d_m_readIf_19 ?_
    refine lv_iconst (v := 5) hx hb d_m_readIf_22 (by decide) ?_
    refine lv_aload_n hx hb d_m_readIf_23 rfl (lv_at hl 0 rfl) ?_
    obtain ⟨q24, hc24, h⟩ := Option.bind_eq_some_iff.mp h
    refine ck_V (As := []) (rest := [.int 5, .ref (b + 264), .int (3 * q14), .ref (b + 269)]) (st1 := [.int q24, .int 5, .ref (b + 264), .int (3 * q14), .ref (b + 269)]) (M_m_own  hc24) t_1145 t_1147 p_38 t_1148 t_13 hx hb hts hown hC hX hS (hrc_m0 hC hX (by rfl)) hml hl.1 ⟨by rw [hRf]; decide, by rw [hRl]; decide⟩ ⟨rfl, rfl⟩ (n := 0) (by decide +kernel) rfl rfl rfl (lv_room (Nat.le_of_ble_eq_true rfl)) d_m_readIf_24 (fun H locs hX hS => ?_)
    refine lv_imul hx hb d_m_readIf_27 ?_
    refine lv_iconst (v := 3) hx hb d_m_readIf_28 (by decide) ?_
    refine lv_iadd hx hb d_m_readIf_29 ?_
    by_cases hg30 : inbd ((5 * q24) + 3) 10 = true
    rotate_left; · rw [if_neg hg30] at h; cases h
    rw [if_pos hg30] at h
    refine m_ald_1 (k := 2) hx hb hC hX (by rfl) hg30 d_m_readIf_30 ?_
    refine lv_aload_n hx hb d_m_readIf_31 rfl (lv_at hl 0 rfl) ?_
    refine m_get_0_11 hx hb hts hown hC hX (by rfl) (hts _ t_998) d_m_readIf_32 ?_
    obtain ⟨q35, hc35, h⟩ := Option.bind_eq_some_iff.mp h
    refine ck_S (As := [.ref (b + 269), .int (3 * q14), .int (gI q1.1 2 (txN ((5 * q24) + 3))), .long (gL q1.1 0 11)]) (rest := []) (st1 := [.int q35]) (M_m_find (by rfl) hc35) t_1210 t_1211 t_1212 t_13 hx hb hts hown hC hX hS  hml hl.1 ⟨by rw [hRf]; decide, by rw [hRl]; decide⟩ ⟨rfl, rfl⟩ (n := 4) (by decide +kernel) rfl rfl rfl (lv_room (Nat.le_of_ble_eq_true rfl)) d_m_readIf_35 (fun H locs hX hS => ?_)
    refine lv_istore_n (lv' := [(1, .int q35), (0, .ref (b + 262))]) hx hb d_m_readIf_38 rfl hl (by decide) rfl (fun ls hl => ?_)
    refine lv_iload_n hx hb d_m_readIf_39 rfl (lv_at hl 0 rfl) ?_
    have J48 : ∀ (S_48 : MS) (H : Heap) (locs : List Loc) (ls : Array Slot), hp D cA b ad (T, S_48, o) H → va_S (Ab b) s.heap H locs → lv_has ls 2 [(0, .ref (b + 262)), (1, .int q35)] → m_readIf_J48 q35 S_48 = some rr → W p l e R s m args below meth c H locs 0 0 Q (F0 m 48 ls []) := by
      intro S_48 H locs ls  hX hS hl h
      rw [m_readIf_J48] at h
      refine lv_aload_n hx hb d_m_readIf_48 rfl (lv_at hl 0 rfl) ?_
      obtain ⟨q49, hc49, h⟩ := Option.bind_eq_some_iff.mp h
      refine ck_V (As := []) (rest := []) (st1 := []) (M_m_next  hc49) t_1149 t_1151 p_39 t_1152 t_13 hx hb hts hown hC hX hS (hrc_m0 hC hX (by rfl)) hml hl.1 ⟨by rw [hRf]; decide, by rw [hRl]; decide⟩ ⟨rfl, rfl⟩ (n := 0) (by decide +kernel) rfl rfl rfl (lv_room (Nat.le_of_ble_eq_true rfl)) d_m_readIf_49 (fun H locs hX hS => ?_)
      refine lv_aload_n hx hb d_m_readIf_52 rfl (lv_at hl 0 rfl) ?_
      refine lv_iload_n hx hb d_m_readIf_53 rfl (lv_at hl 1 rfl) ?_
      refine lv_iconst (v := 1) hx hb d_m_readIf_54 (by decide) ?_
      obtain ⟨q55, hc55, h⟩ := Option.bind_eq_some_iff.mp h
      refine ck_V (As := [.int q35, .int (bI true)]) (rest := []) (st1 := []) (M_m_readSide  hc55) t_1264 t_1266 p_60 t_1267 t_13 hx hb hts hown hC hX hS (hrc_m0 hC hX (by rfl)) hml hl.1 ⟨by rw [hRf]; decide, by rw [hRl]; decide⟩ ⟨rfl, rfl⟩ (n := 2) (by decide +kernel) rfl rfl rfl (lv_room (Nat.le_of_ble_eq_true rfl)) d_m_readIf_55 (fun H locs hX hS => ?_)
      refine lv_aload_n hx hb d_m_readIf_58 rfl (lv_at hl 0 rfl) ?_
      refine m_get_0_7 hx hb hts hown hC hX (by rfl) (hts _ t_994) d_m_readIf_59 ?_
      have J94 : ∀ (S_94 : MS) (H : Heap) (locs : List Loc) (ls : Array Slot), hp D cA b ad (T, S_94, o) H → va_S (Ab b) s.heap H locs → lv_has ls 2 [(0, .ref (b + 262))] → m_readIf_J94 S_94 = some rr → W p l e R s m args below meth c H locs 0 0 Q (F0 m 94 ls []) := by
        intro S_94 H locs ls  hX hS hl h
        rw [m_readIf_J94] at h
        refine lv_aload_n hx hb d_m_readIf_94 rfl (lv_at hl 0 rfl) ?_
        refine lv_bipush (v := 59) hx hb d_m_readIf_95 (by decide) ?_
        obtain ⟨q97, hc97, h⟩ := Option.bind_eq_some_iff.mp h
        refine ck_V (As := [.int 59]) (rest := []) (st1 := []) (M_m_must  hc97) t_1213 t_1215 p_49 t_1216 t_13 hx hb hts hown hC hX hS (hrc_m0 hC hX (by rfl)) hml hl.1 ⟨by rw [hRf]; decide, by rw [hRl]; decide⟩ ⟨rfl, rfl⟩ (n := 1) (by decide +kernel) rfl rfl rfl (lv_room (Nat.le_of_ble_eq_true rfl)) d_m_readIf_97 (fun H locs hX hS => ?_)
        obtain rfl := Option.some.inj h
        exact rt_v hQ hx hb hr hX hS hlk d_m_readIf_100
      refine lv_if_ne hx hb d_m_readIf_62 (tgt := 94) (by decide) (fun hc => ?_) (fun hc => ?_)
      · rw [if_neg hc] at h
        exact J94 q55 H locs ls  hX hS (lv_sub hl [0] rfl) h
      · rw [if_pos hc] at h
        refine lv_aload_n hx hb d_m_readIf_65 rfl (lv_at hl 0 rfl) ?_
        refine m_get_0_5 hx hb hts hown hC hX (by rfl) (hts _ t_992) d_m_readIf_66 ?_
        refine lv_iconst (v := 1) hx hb d_m_readIf_69 (by decide) ?_
        refine lv_icmp_ne hx hb d_m_readIf_70 (tgt := 94) (by decide) (fun hc => ?_) (fun hc => ?_)
        · rw [if_neg hc] at h
          exact J94 q55 H locs ls  hX hS (lv_sub hl [0] rfl) h
        · rw [if_pos hc] at h
          refine lv_aload_n hx hb d_m_readIf_73 rfl (lv_at hl 0 rfl) ?_
          refine m_get_0_11 hx hb hts hown hC hX (by rfl) (hts _ t_998) d_m_readIf_74 ?_
          refine lv_ldc2 (v := 1361093) hx hb hown (hts _ t_1245) d_m_readIf_77 ?_
          refine lx_ifne hx hb d_m_readIf_80 d_m_readIf_81 (tgt := 94) (by decide) (fun hc => ?_) (fun hc => ?_)
          · rw [if_neg hc] at h
            exact J94 q55 H locs ls  hX hS (lv_sub hl [0] rfl) h
          · rw [if_pos hc] at h
            refine lv_aload_n hx hb d_m_readIf_84 rfl (lv_at hl 0 rfl) ?_
            obtain ⟨q85, hc85, h⟩ := Option.bind_eq_some_iff.mp h
            refine ck_V (As := []) (rest := []) (st1 := []) (M_m_next  hc85) t_1149 t_1151 p_39 t_1152 t_13 hx hb hts hown hC hX hS (hrc_m0 hC hX (by rfl)) hml hl.1 ⟨by rw [hRf]; decide, by rw [hRl]; decide⟩ ⟨rfl, rfl⟩ (n := 0) (by decide +kernel) rfl rfl rfl (lv_room (Nat.le_of_ble_eq_true rfl)) d_m_readIf_85 (fun H locs hX hS => ?_)
            refine lv_aload_n hx hb d_m_readIf_88 rfl (lv_at hl 0 rfl) ?_
            refine lv_iload_n hx hb d_m_readIf_89 rfl (lv_at hl 1 rfl) ?_
            refine lv_iconst (v := 0) hx hb d_m_readIf_90 (by decide) ?_
            obtain ⟨q91, hc91, h⟩ := Option.bind_eq_some_iff.mp h
            refine ck_V (As := [.int q35, .int (bI false)]) (rest := []) (st1 := []) (M_m_readSide  hc91) t_1264 t_1266 p_60 t_1267 t_13 hx hb hts hown hC hX hS (hrc_m0 hC hX (by rfl)) hml hl.1 ⟨by rw [hRf]; decide, by rw [hRl]; decide⟩ ⟨rfl, rfl⟩ (n := 2) (by decide +kernel) rfl rfl rfl (lv_room (Nat.le_of_ble_eq_true rfl)) d_m_readIf_91 (fun H locs hX hS => ?_)
            exact J94 q91 H locs ls  hX hS (lv_sub hl [0] rfl) h
    refine lv_if_ge hx hb d_m_readIf_40 (tgt := 48) (by decide) (fun hc => ?_) (fun hc => ?_)
    · rw [if_pos hc] at h
      exact J48 q1.1 H locs ls  hX hS (lv_sub hl [1, 0] rfl) h
    · rw [if_neg hc] at h
      refine lv_aload_n hx hb d_m_readIf_43 rfl (lv_at hl 1 rfl) ?_
      refine lv_iconst (v := 2) hx hb d_m_readIf_44 (by decide) ?_
      obtain ⟨q45, hc45, h⟩ := Option.bind_eq_some_iff.mp h
      refine ck_V (As := [.int 2]) (rest := []) (st1 := []) (M_m_fail  hc45) t_1159 t_1161 p_40 t_1162 t_13 hx hb hts hown hC hX hS (hrc_m0 hC hX (by rfl)) hml hl.1 ⟨by rw [hRf]; decide, by rw [hRl]; decide⟩ ⟨rfl, rfl⟩ (n := 1) (by decide +kernel) rfl rfl rfl (lv_room (Nat.le_of_ble_eq_true rfl)) d_m_readIf_45 (fun H locs hX hS => ?_)
      exact J48 q45 H locs ls  hX hS (lv_sub hl [1, 0] rfl) h
  · rw [if_neg hc] at h
    obtain rfl := Option.some.inj h
    exact rt_v hQ hx hb hr hX hS hlk d_m_readIf_7
abbrev y_m_readStatement : MethodName := ({ cls := "TypeGuardModel", name := "readStatement", desc := "()V" } : Jvm.MethodName)
theorem d_m_readStatement_0 : decode prog_14_method_31_code 0 = .ok (.aload_n 0, 1) := by decide +kernel
theorem d_m_readStatement_1 : decode prog_14_method_31_code 1 = .ok (.getfield 128, 3) := by decide +kernel
theorem d_m_readStatement_4 : decode prog_14_method_31_code 4 = .ok (.iconst 1, 1) := by decide +kernel
theorem d_m_readStatement_5 : decode prog_14_method_31_code 5 = .ok (.if_icmp .ne 10, 3) := by decide +kernel
theorem d_m_readStatement_8 : decode prog_14_method_31_code 8 = .ok (.aload_n 0, 1) := by decide +kernel
theorem d_m_readStatement_9 : decode prog_14_method_31_code 9 = .ok (.getfield 134, 3) := by decide +kernel
theorem d_m_readStatement_12 : decode prog_14_method_31_code 12 = .ok (.goto 4, 3) := by decide +kernel
theorem d_m_readStatement_15 : decode prog_14_method_31_code 15 = .ok (.lconst 0, 1) := by decide +kernel
theorem d_m_readStatement_16 : decode prog_14_method_31_code 16 = .ok (.lstore_n 1, 1) := by decide +kernel
theorem d_m_readStatement_17 : decode prog_14_method_31_code 17 = .ok (.lload_n 1, 1) := by decide +kernel
theorem d_m_readStatement_18 : decode prog_14_method_31_code 18 = .ok (.invokestatic 232, 3) := by decide +kernel
theorem d_m_readStatement_21 : decode prog_14_method_31_code 21 = .ok (.istore_n 3, 1) := by decide +kernel
theorem d_m_readStatement_22 : decode prog_14_method_31_code 22 = .ok (.iload_n 3, 1) := by decide +kernel
theorem d_m_readStatement_23 : decode prog_14_method_31_code 23 = .ok (.ifCond .ge 43, 3) := by decide +kernel
theorem d_m_readStatement_26 : decode prog_14_method_31_code 26 = .ok (.lload_n 1, 1) := by decide +kernel
theorem d_m_readStatement_27 : decode prog_14_method_31_code 27 = .ok (.ldc2_w 163, 3) := by decide +kernel
theorem d_m_readStatement_30 : decode prog_14_method_31_code 30 = .ok (.lcmp, 1) := by decide +kernel
theorem d_m_readStatement_31 : decode prog_14_method_31_code 31 = .ok (.ifCond .eq 35, 3) := by decide +kernel
theorem d_m_readStatement_34 : decode prog_14_method_31_code 34 = .ok (.lload_n 1, 1) := by decide +kernel
theorem d_m_readStatement_35 : decode prog_14_method_31_code 35 = .ok (.ldc2_w 161, 3) := by decide +kernel
theorem d_m_readStatement_38 : decode prog_14_method_31_code 38 = .ok (.lcmp, 1) := by decide +kernel
theorem d_m_readStatement_39 : decode prog_14_method_31_code 39 = .ok (.ifCond .eq 27, 3) := by decide +kernel
theorem d_m_readStatement_42 : decode prog_14_method_31_code 42 = .ok (.lload_n 1, 1) := by decide +kernel
theorem d_m_readStatement_43 : decode prog_14_method_31_code 43 = .ok (.ldc2_w 165, 3) := by decide +kernel
theorem d_m_readStatement_46 : decode prog_14_method_31_code 46 = .ok (.lcmp, 1) := by decide +kernel
theorem d_m_readStatement_47 : decode prog_14_method_31_code 47 = .ok (.ifCond .eq 19, 3) := by decide +kernel
theorem d_m_readStatement_50 : decode prog_14_method_31_code 50 = .ok (.lload_n 1, 1) := by decide +kernel
theorem d_m_readStatement_51 : decode prog_14_method_31_code 51 = .ok (.ldc2_w 167, 3) := by decide +kernel
theorem d_m_readStatement_54 : decode prog_14_method_31_code 54 = .ok (.lcmp, 1) := by decide +kernel
theorem d_m_readStatement_55 : decode prog_14_method_31_code 55 = .ok (.ifCond .eq 11, 3) := by decide +kernel
theorem d_m_readStatement_58 : decode prog_14_method_31_code 58 = .ok (.lload_n 1, 1) := by decide +kernel
theorem d_m_readStatement_59 : decode prog_14_method_31_code 59 = .ok (.ldc2_w 179, 3) := by decide +kernel
theorem d_m_readStatement_62 : decode prog_14_method_31_code 62 = .ok (.lcmp, 1) := by decide +kernel
theorem d_m_readStatement_63 : decode prog_14_method_31_code 63 = .ok (.ifCond .ne 7, 3) := by decide +kernel
theorem d_m_readStatement_66 : decode prog_14_method_31_code 66 = .ok (.iconst 1, 1) := by decide +kernel
theorem d_m_readStatement_67 : decode prog_14_method_31_code 67 = .ok (.goto 4, 3) := by decide +kernel
theorem d_m_readStatement_70 : decode prog_14_method_31_code 70 = .ok (.iconst 0, 1) := by decide +kernel
theorem d_m_readStatement_71 : decode prog_14_method_31_code 71 = .ok (.istore 4, 2) := by decide +kernel
theorem d_m_readStatement_73 : decode prog_14_method_31_code 73 = .ok (.iload 4, 2) := by decide +kernel
theorem d_m_readStatement_75 : decode prog_14_method_31_code 75 = .ok (.ifCond .ne 8, 3) := by decide +kernel
theorem d_m_readStatement_78 : decode prog_14_method_31_code 78 = .ok (.aload_n 0, 1) := by decide +kernel
theorem d_m_readStatement_79 : decode prog_14_method_31_code 79 = .ok (.iconst 1, 1) := by decide +kernel
theorem d_m_readStatement_80 : decode prog_14_method_31_code 80 = .ok (.invokevirtual 141, 3) := by decide +kernel
theorem d_m_readStatement_83 : decode prog_14_method_31_code 83 = .ok (.iload_n 3, 1) := by decide +kernel
theorem d_m_readStatement_84 : decode prog_14_method_31_code 84 = .ok (.ifCond .lt 10, 3) := by decide +kernel
theorem d_m_readStatement_87 : decode prog_14_method_31_code 87 = .ok (.aload_n 0, 1) := by decide +kernel
theorem d_m_readStatement_88 : decode prog_14_method_31_code 88 = .ok (.iload_n 3, 1) := by decide +kernel
theorem d_m_readStatement_89 : decode prog_14_method_31_code 89 = .ok (.iconst (-1), 1) := by decide +kernel
theorem d_m_readStatement_90 : decode prog_14_method_31_code 90 = .ok (.iconst 1, 1) := by decide +kernel
theorem d_m_readStatement_91 : decode prog_14_method_31_code 91 = .ok (.invokevirtual 236, 3) := by decide +kernel
theorem d_m_readStatement_94 : decode prog_14_method_31_code 94 = .ok (.iload_n 3, 1) := by decide +kernel
theorem d_m_readStatement_95 : decode prog_14_method_31_code 95 = .ok (.ifCond .ge 8, 3) := by decide +kernel
theorem d_m_readStatement_98 : decode prog_14_method_31_code 98 = .ok (.iload 4, 2) := by decide +kernel
theorem d_m_readStatement_100 : decode prog_14_method_31_code 100 = .ok (.ifCond .ne 4, 3) := by decide +kernel
theorem d_m_readStatement_103 : decode prog_14_method_31_code 103 = .ok (.return_, 1) := by decide +kernel
theorem d_m_readStatement_104 : decode prog_14_method_31_code 104 = .ok (.aload_n 0, 1) := by decide +kernel
theorem d_m_readStatement_105 : decode prog_14_method_31_code 105 = .ok (.invokevirtual 148, 3) := by decide +kernel
theorem d_m_readStatement_108 : decode prog_14_method_31_code 108 = .ok (.lload_n 1, 1) := by decide +kernel
theorem d_m_readStatement_109 : decode prog_14_method_31_code 109 = .ok (.ldc2_w 163, 3) := by decide +kernel
theorem d_m_readStatement_112 : decode prog_14_method_31_code 112 = .ok (.lcmp, 1) := by decide +kernel
theorem d_m_readStatement_113 : decode prog_14_method_31_code 113 = .ok (.ifCond .ne 10, 3) := by decide +kernel
theorem d_m_readStatement_116 : decode prog_14_method_31_code 116 = .ok (.aload_n 0, 1) := by decide +kernel
theorem d_m_readStatement_117 : decode prog_14_method_31_code 117 = .ok (.invokevirtual 244, 3) := by decide +kernel
theorem d_m_readStatement_120 : decode prog_14_method_31_code 120 = .ok (.goto 60, 3) := by decide +kernel
theorem d_m_readStatement_123 : decode prog_14_method_31_code 123 = .ok (.lload_n 1, 1) := by decide +kernel
theorem d_m_readStatement_124 : decode prog_14_method_31_code 124 = .ok (.ldc2_w 161, 3) := by decide +kernel
theorem d_m_readStatement_127 : decode prog_14_method_31_code 127 = .ok (.lcmp, 1) := by decide +kernel
theorem d_m_readStatement_128 : decode prog_14_method_31_code 128 = .ok (.ifCond .ne 10, 3) := by decide +kernel
theorem d_m_readStatement_131 : decode prog_14_method_31_code 131 = .ok (.aload_n 0, 1) := by decide +kernel
theorem d_m_readStatement_132 : decode prog_14_method_31_code 132 = .ok (.invokevirtual 247, 3) := by decide +kernel
theorem d_m_readStatement_135 : decode prog_14_method_31_code 135 = .ok (.goto 45, 3) := by decide +kernel
theorem d_m_readStatement_138 : decode prog_14_method_31_code 138 = .ok (.lload_n 1, 1) := by decide +kernel
theorem d_m_readStatement_139 : decode prog_14_method_31_code 139 = .ok (.ldc2_w 165, 3) := by decide +kernel
theorem d_m_readStatement_142 : decode prog_14_method_31_code 142 = .ok (.lcmp, 1) := by decide +kernel
theorem d_m_readStatement_143 : decode prog_14_method_31_code 143 = .ok (.ifCond .ne 10, 3) := by decide +kernel
theorem d_m_readStatement_146 : decode prog_14_method_31_code 146 = .ok (.aload_n 0, 1) := by decide +kernel
theorem d_m_readStatement_147 : decode prog_14_method_31_code 147 = .ok (.invokevirtual 250, 3) := by decide +kernel
theorem d_m_readStatement_150 : decode prog_14_method_31_code 150 = .ok (.goto 30, 3) := by decide +kernel
theorem d_m_readStatement_153 : decode prog_14_method_31_code 153 = .ok (.lload_n 1, 1) := by decide +kernel
theorem d_m_readStatement_154 : decode prog_14_method_31_code 154 = .ok (.ldc2_w 167, 3) := by decide +kernel
theorem d_m_readStatement_157 : decode prog_14_method_31_code 157 = .ok (.lcmp, 1) := by decide +kernel
theorem d_m_readStatement_158 : decode prog_14_method_31_code 158 = .ok (.ifCond .ne 10, 3) := by decide +kernel
theorem d_m_readStatement_161 : decode prog_14_method_31_code 161 = .ok (.aload_n 0, 1) := by decide +kernel
theorem d_m_readStatement_162 : decode prog_14_method_31_code 162 = .ok (.invokevirtual 253, 3) := by decide +kernel
theorem d_m_readStatement_165 : decode prog_14_method_31_code 165 = .ok (.goto 15, 3) := by decide +kernel
theorem d_m_readStatement_168 : decode prog_14_method_31_code 168 = .ok (.lload_n 1, 1) := by decide +kernel
theorem d_m_readStatement_169 : decode prog_14_method_31_code 169 = .ok (.ldc2_w 179, 3) := by decide +kernel
theorem d_m_readStatement_172 : decode prog_14_method_31_code 172 = .ok (.lcmp, 1) := by decide +kernel
theorem d_m_readStatement_173 : decode prog_14_method_31_code 173 = .ok (.ifCond .ne 7, 3) := by decide +kernel
theorem d_m_readStatement_176 : decode prog_14_method_31_code 176 = .ok (.aload_n 0, 1) := by decide +kernel
theorem d_m_readStatement_177 : decode prog_14_method_31_code 177 = .ok (.invokevirtual 256, 3) := by decide +kernel
theorem d_m_readStatement_180 : decode prog_14_method_31_code 180 = .ok (.return_, 1) := by decide +kernel
def m_readStatement_J94 (v1_94 : Int64) (v3_94 : Int32) (v4_94 : Bool) (S_94 : MS) : Option MS := (if 0 ≤ v3_94 then some S_94 else (if v4_94 = true then ((m_next S_94).bind fun q105 => (if v1_94 = 53482707 then ((m_readClass q105).bind fun q117 => some q117) else (if v1_94 = 370829775426821 then ((m_readAttribute q105).bind fun q132 => some q132) else (if v1_94 = 5346309 then ((m_readType q105).bind fun q147 => some q147) else (if v1_94 = 586700 then ((m_readBool q105).bind fun q162 => some q162) else (if v1_94 = 582 then ((m_readIf q105).bind fun q177 => some q177) else some q105)))))) else some S_94))
def m_readStatement_J83 (v1_83 : Int64) (v3_83 : Int32) (v4_83 : Bool) (S_83 : MS) : Option MS := (if v3_83 < 0 then m_readStatement_J94 v1_83 v3_83 v4_83 S_83 else ((m_readRule v3_83 (-1) true S_83).bind fun q91 => m_readStatement_J94 v1_83 v3_83 v4_83 q91))
def m_readStatement_J71 (v1_71 : Int64) (v3_71 : Int32) (s0_71 : Bool) (S_71 : MS) : Option MS := (if s0_71 = true then m_readStatement_J83 v1_71 v3_71 s0_71 S_71 else ((m_fail 1 S_71).bind fun q80 => m_readStatement_J83 v1_71 v3_71 s0_71 q80))
def m_readStatement_J66 (v1_66 : Int64) (v3_66 : Int32) (S_66 : MS) : Option MS := m_readStatement_J71 v1_66 v3_66 true S_66
def m_readStatement_J16 (s0_16 : Int64) (S_16 : MS) : Option MS := ((m_ruleKind s0_16).bind fun q18 => (if 0 ≤ q18 then m_readStatement_J66 s0_16 q18 S_16 else (if s0_16 = 53482707 then m_readStatement_J66 s0_16 q18 S_16 else (if s0_16 = 370829775426821 then m_readStatement_J66 s0_16 q18 S_16 else (if s0_16 = 5346309 then m_readStatement_J66 s0_16 q18 S_16 else (if s0_16 = 586700 then m_readStatement_J66 s0_16 q18 S_16 else (if s0_16 = 582 then m_readStatement_J66 s0_16 q18 S_16 else m_readStatement_J71 s0_16 q18 false S_16)))))))
def m_readStatement (S : MS) : Option MS := (if (gI S 0 5) = 1 then m_readStatement_J16 (gL S 0 11) S else m_readStatement_J16 0 S)
set_option maxHeartbeats 4000000 in
set_option maxRecDepth 100000 in
theorem M_m_readStatement {l : Launch} {D : va_G} {cA : Nat → ClassId} {b : Nat} {ad : Nat → Nat}  {S : MS} {T : CS} {o : Nat → Int64} {rr : MS}  (h : m_readStatement  S = some rr) : Met l y_m_readStatement (Cond.code y_m_readStatement prog_14_method_31_code 5 (Option.none : Option Jvm.ClassFile.FieldType) :: TW) { frames := 9, cells := 0, slots := 0, locals := 201 } (va_Pc [.ref (b + 262)] (Rp D cA b ad (T, S, o))) (Qr D cA b ad (T, rr, o) none) 0 0 (Ab b) := by
  refine Ct_of (by decide) (Nat.le_of_ble_eq_true rfl) ?_
  intro p e R s m args below meth c ls Q H locs hR hQ hx hb hts hown hml hr hlk hC hX hS hl
  have hRf : R.frames = 9 := by rw [hR]
  have hRl : R.locals = 201 := by rw [hR]
  have hown : s.vm.findClass "TypeGuardModel" = some m.cls := hown
  have hl : lv_has ls 5 [(0, .ref (b + 262))] := hl
  rw [m_readStatement] at h
  refine lv_aload_n hx hb d_m_readStatement_0 rfl (lv_at hl 0 rfl) ?_
  refine m_get_0_5 hx hb hts hown hC hX (by rfl) (hts _ t_992) d_m_readStatement_1 ?_
  refine lv_iconst (v := 1) hx hb d_m_readStatement_4 (by decide) ?_
  have J16 : ∀ (s0_16 : Int64) (H : Heap) (locs : List Loc) (ls : Array Slot), hp D cA b ad (T, S, o) H → va_S (Ab b) s.heap H locs → lv_has ls 5 [(0, .ref (b + 262))] → m_readStatement_J16 s0_16 S = some rr → W p l e R s m args below meth c H locs 0 0 Q (F0 m 16 ls [.long s0_16]) := by
    intro s0_16 H locs ls  hX hS hl h
    rw [m_readStatement_J16] at h
    refine lv_lstore_n (lv' := [(1, .long s0_16), (0, .ref (b + 262))]) hx hb d_m_readStatement_16 rfl hl (by decide) rfl (fun ls hl => ?_)
    refine lv_lload_n hx hb d_m_readStatement_17 rfl (lv_at hl 0 rfl) ?_
    obtain ⟨q18, hc18, h⟩ := Option.bind_eq_some_iff.mp h
    refine ck_S (As := [.long s0_16]) (rest := []) (st1 := [.int q18]) (M_m_ruleKind  hc18) t_1167 t_1168 t_1169 t_13 hx hb hts hown hC hX hS  hml hl.1 ⟨by rw [hRf]; decide, by rw [hRl]; decide⟩ ⟨rfl, rfl⟩ (n := 1) (by decide +kernel) rfl rfl rfl (lv_room (Nat.le_of_ble_eq_true rfl)) d_m_readStatement_18 (fun H locs hX hS => ?_)
    refine lv_istore_n (lv' := [(3, .int q18), (1, .long s0_16), (0, .ref (b + 262))]) hx hb d_m_readStatement_21 rfl hl (by decide) rfl (fun ls hl => ?_)
    refine lv_iload_n hx hb d_m_readStatement_22 rfl (lv_at hl 0 rfl) ?_
    have J71 : ∀ (s0_71 : Bool) (H : Heap) (locs : List Loc) (ls : Array Slot), hp D cA b ad (T, S, o) H → va_S (Ab b) s.heap H locs → lv_has ls 5 [(0, .ref (b + 262)), (1, .long s0_16), (3, .int q18)] → m_readStatement_J71 s0_16 q18 s0_71 S = some rr → W p l e R s m args below meth c H locs 0 0 Q (F0 m 71 ls [.int (bI s0_71)]) := by
      intro s0_71 H locs ls  hX hS hl h
      rw [m_readStatement_J71] at h
      refine lv_istore (lv' := [(4, .int (bI s0_71)), (0, .ref (b + 262)), (1, .long s0_16), (3, .int q18)]) hx hb d_m_readStatement_71 hl (by decide) rfl (fun ls hl => ?_)
      refine lv_iload hx hb d_m_readStatement_73 (lv_at hl 0 rfl) ?_
      have J83 : ∀ (S_83 : MS) (H : Heap) (locs : List Loc) (ls : Array Slot), hp D cA b ad (T, S_83, o) H → va_S (Ab b) s.heap H locs → lv_has ls 5 [(0, .ref (b + 262)), (1, .long s0_16), (3, .int q18), (4, .int (bI s0_71))] → m_readStatement_J83 s0_16 q18 s0_71 S_83 = some rr → W p l e R s m args below meth c H locs 0 0 Q (F0 m 83 ls []) := by
        intro S_83 H locs ls  hX hS hl h
        rw [m_readStatement_J83] at h
        refine lv_iload_n hx hb d_m_readStatement_83 rfl (lv_at hl 2 rfl) ?_
        have J94 : ∀ (S_94 : MS) (H : Heap) (locs : List Loc) (ls : Array Slot), hp D cA b ad (T, S_94, o) H → va_S (Ab b) s.heap H locs → lv_has ls 5 [(0, .ref (b + 262)), (1, .long s0_16), (3, .int q18), (4, .int (bI s0_71))] → m_readStatement_J94 s0_16 q18 s0_71 S_94 = some rr → W p l e R s m args below meth c H locs 0 0 Q (F0 m 94 ls []) := by
          intro S_94 H locs ls  hX hS hl h
          rw [m_readStatement_J94] at h
          refine lv_iload_n hx hb d_m_readStatement_94 rfl (lv_at hl 2 rfl) ?_
          refine lv_if_ge hx hb d_m_readStatement_95 (tgt := 103) (by decide) (fun hc => ?_) (fun hc => ?_)
          · rw [if_pos hc] at h
            obtain rfl := Option.some.inj h
            exact rt_v hQ hx hb hr hX hS hlk d_m_readStatement_103
          · rw [if_neg hc] at h
            refine lv_iload hx hb d_m_readStatement_98 (lv_at hl 3 rfl) ?_
            refine lz_ifne hx hb d_m_readStatement_100 (tgt := 104) (by decide) (fun hc => ?_) (fun hc => ?_)
            · rw [if_pos hc] at h
              refine lv_aload_n hx hb d_m_readStatement_104 rfl (lv_at hl 0 rfl) ?_
              obtain ⟨q105, hc105, h⟩ := Option.bind_eq_some_iff.mp h
              refine ck_V (As := []) (rest := []) (st1 := []) (M_m_next  hc105) t_1149 t_1151 p_39 t_1152 t_13 hx hb hts hown hC hX hS (hrc_m0 hC hX (by rfl)) hml hl.1 ⟨by rw [hRf]; decide, by rw [hRl]; decide⟩ ⟨rfl, rfl⟩ (n := 0) (by decide +kernel) rfl rfl rfl (lv_room (Nat.le_of_ble_eq_true rfl)) d_m_readStatement_105 (fun H locs hX hS => ?_)
              refine lv_lload_n hx hb d_m_readStatement_108 rfl (lv_at hl 1 rfl) ?_
              refine lv_ldc2 (v := 53482707) hx hb hown (hts _ t_1175) d_m_readStatement_109 ?_
              refine lx_ifne hx hb d_m_readStatement_112 d_m_readStatement_113 (tgt := 123) (by decide) (fun hc => ?_) (fun hc => ?_)
              · rw [if_neg hc] at h
                refine lv_lload_n hx hb d_m_readStatement_123 rfl (lv_at hl 1 rfl) ?_
                refine lv_ldc2 (v := 370829775426821) hx hb hown (hts _ t_1176) d_m_readStatement_124 ?_
                refine lx_ifne hx hb d_m_readStatement_127 d_m_readStatement_128 (tgt := 138) (by decide) (fun hc => ?_) (fun hc => ?_)
                · rw [if_neg hc] at h
                  refine lv_lload_n hx hb d_m_readStatement_138 rfl (lv_at hl 1 rfl) ?_
                  refine lv_ldc2 (v := 5346309) hx hb hown (hts _ t_1177) d_m_readStatement_139 ?_
                  refine lx_ifne hx hb d_m_readStatement_142 d_m_readStatement_143 (tgt := 153) (by decide) (fun hc => ?_) (fun hc => ?_)
                  · rw [if_neg hc] at h
                    refine lv_lload_n hx hb d_m_readStatement_153 rfl (lv_at hl 1 rfl) ?_
                    refine lv_ldc2 (v := 586700) hx hb hown (hts _ t_1178) d_m_readStatement_154 ?_
                    refine lx_ifne hx hb d_m_readStatement_157 d_m_readStatement_158 (tgt := 168) (by decide) (fun hc => ?_) (fun hc => ?_)
                    · rw [if_neg hc] at h
                      refine lv_lload_n hx hb d_m_readStatement_168 rfl (lv_at hl 1 rfl) ?_
                      refine lv_ldc2 (v := 582) hx hb hown (hts _ t_1179) d_m_readStatement_169 ?_
                      refine lx_ifne hx hb d_m_readStatement_172 d_m_readStatement_173 (tgt := 180) (by decide) (fun hc => ?_) (fun hc => ?_)
                      · rw [if_neg hc] at h
                        obtain rfl := Option.some.inj h
                        exact rt_v hQ hx hb hr hX hS hlk d_m_readStatement_180
                      · rw [if_pos hc] at h
                        refine lv_aload_n hx hb d_m_readStatement_176 rfl (lv_at hl 0 rfl) ?_
                        obtain ⟨q177, hc177, h⟩ := Option.bind_eq_some_iff.mp h
                        refine ck_V (As := []) (rest := []) (st1 := []) (M_m_readIf  hc177) t_1260 t_1262 p_59 t_1263 t_13 hx hb hts hown hC hX hS (hrc_m0 hC hX (by rfl)) hml hl.1 ⟨by rw [hRf]; decide, by rw [hRl]; decide⟩ ⟨rfl, rfl⟩ (n := 0) (by decide +kernel) rfl rfl rfl (lv_room (Nat.le_of_ble_eq_true rfl)) d_m_readStatement_177 (fun H locs hX hS => ?_)
                        obtain rfl := Option.some.inj h
                        exact rt_v hQ hx hb hr hX hS hlk d_m_readStatement_180
                    · rw [if_pos hc] at h
                      refine lv_aload_n hx hb d_m_readStatement_161 rfl (lv_at hl 0 rfl) ?_
                      obtain ⟨q162, hc162, h⟩ := Option.bind_eq_some_iff.mp h
                      refine ck_V (As := []) (rest := []) (st1 := []) (M_m_readBool  hc162) t_1256 t_1258 p_58 t_1259 t_13 hx hb hts hown hC hX hS (hrc_m0 hC hX (by rfl)) hml hl.1 ⟨by rw [hRf]; decide, by rw [hRl]; decide⟩ ⟨rfl, rfl⟩ (n := 0) (by decide +kernel) rfl rfl rfl (lv_room (Nat.le_of_ble_eq_true rfl)) d_m_readStatement_162 (fun H locs hX hS => ?_)
                      refine lv_goto hx hb d_m_readStatement_165 (tgt := 180) (by decide) ?_
                      obtain rfl := Option.some.inj h
                      exact rt_v hQ hx hb hr hX hS hlk d_m_readStatement_180
                  · rw [if_pos hc] at h
                    refine lv_aload_n hx hb d_m_readStatement_146 rfl (lv_at hl 0 rfl) ?_
                    obtain ⟨q147, hc147, h⟩ := Option.bind_eq_some_iff.mp h
                    refine ck_V (As := []) (rest := []) (st1 := []) (M_m_readType  hc147) t_1252 t_1254 p_57 t_1255 t_13 hx hb hts hown hC hX hS (hrc_m0 hC hX (by rfl)) hml hl.1 ⟨by rw [hRf]; decide, by rw [hRl]; decide⟩ ⟨rfl, rfl⟩ (n := 0) (by decide +kernel) rfl rfl rfl (lv_room (Nat.le_of_ble_eq_true rfl)) d_m_readStatement_147 (fun H locs hX hS => ?_)
                    refine lv_goto hx hb d_m_readStatement_150 (tgt := 180) (by decide) ?_
                    obtain rfl := Option.some.inj h
                    exact rt_v hQ hx hb hr hX hS hlk d_m_readStatement_180
                · rw [if_pos hc] at h
                  refine lv_aload_n hx hb d_m_readStatement_131 rfl (lv_at hl 0 rfl) ?_
                  obtain ⟨q132, hc132, h⟩ := Option.bind_eq_some_iff.mp h
                  refine ck_V (As := []) (rest := []) (st1 := []) (M_m_readAttribute  hc132) t_1248 t_1250 p_56 t_1251 t_13 hx hb hts hown hC hX hS (hrc_m0 hC hX (by rfl)) hml hl.1 ⟨by rw [hRf]; decide, by rw [hRl]; decide⟩ ⟨rfl, rfl⟩ (n := 0) (by decide +kernel) rfl rfl rfl (lv_room (Nat.le_of_ble_eq_true rfl)) d_m_readStatement_132 (fun H locs hX hS => ?_)
                  refine lv_goto hx hb d_m_readStatement_135 (tgt := 180) (by decide) ?_
                  obtain rfl := Option.some.inj h
                  exact rt_v hQ hx hb hr hX hS hlk d_m_readStatement_180
              · rw [if_pos hc] at h
                refine lv_aload_n hx hb d_m_readStatement_116 rfl (lv_at hl 0 rfl) ?_
                obtain ⟨q117, hc117, h⟩ := Option.bind_eq_some_iff.mp h
                refine ck_V (As := []) (rest := []) (st1 := []) (M_m_readClass  hc117) t_1234 t_1236 p_54 t_1237 t_13 hx hb hts hown hC hX hS (hrc_m0 hC hX (by rfl)) hml hl.1 ⟨by rw [hRf]; decide, by rw [hRl]; decide⟩ ⟨rfl, rfl⟩ (n := 0) (by decide +kernel) rfl rfl rfl (lv_room (Nat.le_of_ble_eq_true rfl)) d_m_readStatement_117 (fun H locs hX hS => ?_)
                refine lv_goto hx hb d_m_readStatement_120 (tgt := 180) (by decide) ?_
                obtain rfl := Option.some.inj h
                exact rt_v hQ hx hb hr hX hS hlk d_m_readStatement_180
            · rw [if_neg hc] at h
              obtain rfl := Option.some.inj h
              exact rt_v hQ hx hb hr hX hS hlk d_m_readStatement_103
        refine lv_if_lt hx hb d_m_readStatement_84 (tgt := 94) (by decide) (fun hc => ?_) (fun hc => ?_)
        · rw [if_pos hc] at h
          exact J94 S_83 H locs ls  hX hS (lv_sub hl [0, 1, 2, 3] rfl) h
        · rw [if_neg hc] at h
          refine lv_aload_n hx hb d_m_readStatement_87 rfl (lv_at hl 0 rfl) ?_
          refine lv_iload_n hx hb d_m_readStatement_88 rfl (lv_at hl 2 rfl) ?_
          refine lv_iconst (v := (-1)) hx hb d_m_readStatement_89 (by decide) ?_
          refine lv_iconst (v := 1) hx hb d_m_readStatement_90 (by decide) ?_
          obtain ⟨q91, hc91, h⟩ := Option.bind_eq_some_iff.mp h
          refine ck_V (As := [.int q18, .int (-1), .int (bI true)]) (rest := []) (st1 := []) (M_m_readRule  hc91) t_1180 t_1182 p_42 t_1183 t_13 hx hb hts hown hC hX hS (hrc_m0 hC hX (by rfl)) hml hl.1 ⟨by rw [hRf]; decide, by rw [hRl]; decide⟩ ⟨rfl, rfl⟩ (n := 3) (by decide +kernel) rfl rfl rfl (lv_room (Nat.le_of_ble_eq_true rfl)) d_m_readStatement_91 (fun H locs hX hS => ?_)
          exact J94 q91 H locs ls  hX hS (lv_sub hl [0, 1, 2, 3] rfl) h
      refine lz_ifne hx hb d_m_readStatement_75 (tgt := 83) (by decide) (fun hc => ?_) (fun hc => ?_)
      · rw [if_pos hc] at h
        exact J83 S H locs ls  hX hS (lv_sub hl [1, 2, 3, 0] rfl) h
      · rw [if_neg hc] at h
        refine lv_aload_n hx hb d_m_readStatement_78 rfl (lv_at hl 1 rfl) ?_
        refine lv_iconst (v := 1) hx hb d_m_readStatement_79 (by decide) ?_
        obtain ⟨q80, hc80, h⟩ := Option.bind_eq_some_iff.mp h
        refine ck_V (As := [.int 1]) (rest := []) (st1 := []) (M_m_fail  hc80) t_1159 t_1161 p_40 t_1162 t_13 hx hb hts hown hC hX hS (hrc_m0 hC hX (by rfl)) hml hl.1 ⟨by rw [hRf]; decide, by rw [hRl]; decide⟩ ⟨rfl, rfl⟩ (n := 1) (by decide +kernel) rfl rfl rfl (lv_room (Nat.le_of_ble_eq_true rfl)) d_m_readStatement_80 (fun H locs hX hS => ?_)
        exact J83 q80 H locs ls  hX hS (lv_sub hl [1, 2, 3, 0] rfl) h
    have J66 : ∀  (H : Heap) (locs : List Loc) (ls : Array Slot), hp D cA b ad (T, S, o) H → va_S (Ab b) s.heap H locs → lv_has ls 5 [(0, .ref (b + 262)), (1, .long s0_16), (3, .int q18)] → m_readStatement_J66 s0_16 q18 S = some rr → W p l e R s m args below meth c H locs 0 0 Q (F0 m 66 ls []) := by
      intro  H locs ls  hX hS hl h
      rw [m_readStatement_J66] at h
      refine lv_iconst (v := 1) hx hb d_m_readStatement_66 (by decide) ?_
      refine lv_goto hx hb d_m_readStatement_67 (tgt := 71) (by decide) ?_
      exact J71 true H locs ls  hX hS (lv_sub hl [0, 1, 2] rfl) h
    refine lv_if_ge hx hb d_m_readStatement_23 (tgt := 66) (by decide) (fun hc => ?_) (fun hc => ?_)
    · rw [if_pos hc] at h
      exact J66  H locs ls  hX hS (lv_sub hl [2, 1, 0] rfl) h
    · rw [if_neg hc] at h
      refine lv_lload_n hx hb d_m_readStatement_26 rfl (lv_at hl 1 rfl) ?_
      refine lv_ldc2 (v := 53482707) hx hb hown (hts _ t_1175) d_m_readStatement_27 ?_
      refine lx_ifeq hx hb d_m_readStatement_30 d_m_readStatement_31 (tgt := 66) (by decide) (fun hc => ?_) (fun hc => ?_)
      · rw [if_pos hc] at h
        exact J66  H locs ls  hX hS (lv_sub hl [2, 1, 0] rfl) h
      · rw [if_neg hc] at h
        refine lv_lload_n hx hb d_m_readStatement_34 rfl (lv_at hl 1 rfl) ?_
        refine lv_ldc2 (v := 370829775426821) hx hb hown (hts _ t_1176) d_m_readStatement_35 ?_
        refine lx_ifeq hx hb d_m_readStatement_38 d_m_readStatement_39 (tgt := 66) (by decide) (fun hc => ?_) (fun hc => ?_)
        · rw [if_pos hc] at h
          exact J66  H locs ls  hX hS (lv_sub hl [2, 1, 0] rfl) h
        · rw [if_neg hc] at h
          refine lv_lload_n hx hb d_m_readStatement_42 rfl (lv_at hl 1 rfl) ?_
          refine lv_ldc2 (v := 5346309) hx hb hown (hts _ t_1177) d_m_readStatement_43 ?_
          refine lx_ifeq hx hb d_m_readStatement_46 d_m_readStatement_47 (tgt := 66) (by decide) (fun hc => ?_) (fun hc => ?_)
          · rw [if_pos hc] at h
            exact J66  H locs ls  hX hS (lv_sub hl [2, 1, 0] rfl) h
          · rw [if_neg hc] at h
            refine lv_lload_n hx hb d_m_readStatement_50 rfl (lv_at hl 1 rfl) ?_
            refine lv_ldc2 (v := 586700) hx hb hown (hts _ t_1178) d_m_readStatement_51 ?_
            refine lx_ifeq hx hb d_m_readStatement_54 d_m_readStatement_55 (tgt := 66) (by decide) (fun hc => ?_) (fun hc => ?_)
            · rw [if_pos hc] at h
              exact J66  H locs ls  hX hS (lv_sub hl [2, 1, 0] rfl) h
            · rw [if_neg hc] at h
              refine lv_lload_n hx hb d_m_readStatement_58 rfl (lv_at hl 1 rfl) ?_
              refine lv_ldc2 (v := 582) hx hb hown (hts _ t_1179) d_m_readStatement_59 ?_
              refine lx_ifne hx hb d_m_readStatement_62 d_m_readStatement_63 (tgt := 70) (by decide) (fun hc => ?_) (fun hc => ?_)
              · rw [if_neg hc] at h
                refine lv_iconst (v := 0) hx hb d_m_readStatement_70 (by decide) ?_
                exact J71 false H locs ls  hX hS (lv_sub hl [2, 1, 0] rfl) h
              · rw [if_pos hc] at h
                exact J66  H locs ls  hX hS (lv_sub hl [2, 1, 0] rfl) h
  refine lv_icmp_ne hx hb d_m_readStatement_5 (tgt := 15) (by decide) (fun hc => ?_) (fun hc => ?_)
  · rw [if_neg hc] at h
    refine lv_lconst (v := 0) hx hb d_m_readStatement_15 (by decide) ?_
    exact J16 0 H locs ls  hX hS (lv_sub hl [0] rfl) h
  · rw [if_pos hc] at h
    refine lv_aload_n hx hb d_m_readStatement_8 rfl (lv_at hl 0 rfl) ?_
    refine m_get_0_11 hx hb hts hown hC hX (by rfl) (hts _ t_998) d_m_readStatement_9 ?_
    refine lv_goto hx hb d_m_readStatement_12 (tgt := 16) (by decide) ?_
    exact J16 (gL S 0 11) H locs ls  hX hS (lv_sub hl [0] rfl) h
abbrev y_m_union : MethodName := ({ cls := "TypeGuardModel", name := "union", desc := "(II)I" } : Jvm.MethodName)
theorem d_m_union_0 : decode prog_14_method_32_code 0 = .ok (.iload_n 2, 1) := by decide +kernel
theorem d_m_union_1 : decode prog_14_method_32_code 1 = .ok (.sipush 4095, 3) := by decide +kernel
theorem d_m_union_4 : decode prog_14_method_32_code 4 = .ok (.iand, 1) := by decide +kernel
theorem d_m_union_5 : decode prog_14_method_32_code 5 = .ok (.istore_n 3, 1) := by decide +kernel
theorem d_m_union_6 : decode prog_14_method_32_code 6 = .ok (.iconst 0, 1) := by decide +kernel
theorem d_m_union_7 : decode prog_14_method_32_code 7 = .ok (.istore 4, 2) := by decide +kernel
theorem d_m_union_9 : decode prog_14_method_32_code 9 = .ok (.iload 4, 2) := by decide +kernel
theorem d_m_union_11 : decode prog_14_method_32_code 11 = .ok (.aload_n 0, 1) := by decide +kernel
theorem d_m_union_12 : decode prog_14_method_32_code 12 = .ok (.getfield 17, 3) := by decide +kernel
theorem d_m_union_15 : decode prog_14_method_32_code 15 = .ok (.iconst 5, 1) := by decide +kernel
theorem d_m_union_16 : decode prog_14_method_32_code 16 = .ok (.iload_n 1, 1) := by decide +kernel
theorem d_m_union_17 : decode prog_14_method_32_code 17 = .ok (.imul, 1) := by decide +kernel
theorem d_m_union_18 : decode prog_14_method_32_code 18 = .ok (.iaload, 1) := by decide +kernel
theorem d_m_union_19 : decode prog_14_method_32_code 19 = .ok (.if_icmp .ge 39, 3) := by decide +kernel
theorem d_m_union_22 : decode prog_14_method_32_code 22 = .ok (.aload_n 0, 1) := by decide +kernel
theorem d_m_union_23 : decode prog_14_method_32_code 23 = .ok (.getfield 36, 3) := by decide +kernel
theorem d_m_union_26 : decode prog_14_method_32_code 26 = .ok (.bipush 12, 2) := by decide +kernel
theorem d_m_union_28 : decode prog_14_method_32_code 28 = .ok (.iload_n 1, 1) := by decide +kernel
theorem d_m_union_29 : decode prog_14_method_32_code 29 = .ok (.imul, 1) := by decide +kernel
theorem d_m_union_30 : decode prog_14_method_32_code 30 = .ok (.iload 4, 2) := by decide +kernel
theorem d_m_union_32 : decode prog_14_method_32_code 32 = .ok (.iadd, 1) := by decide +kernel
theorem d_m_union_33 : decode prog_14_method_32_code 33 = .ok (.iaload, 1) := by decide +kernel
theorem d_m_union_34 : decode prog_14_method_32_code 34 = .ok (.iload_n 2, 1) := by decide +kernel
theorem d_m_union_35 : decode prog_14_method_32_code 35 = .ok (.bipush 12, 2) := by decide +kernel
theorem d_m_union_37 : decode prog_14_method_32_code 37 = .ok (.ishr, 1) := by decide +kernel
theorem d_m_union_38 : decode prog_14_method_32_code 38 = .ok (.iand, 1) := by decide +kernel
theorem d_m_union_39 : decode prog_14_method_32_code 39 = .ok (.bipush 15, 2) := by decide +kernel
theorem d_m_union_41 : decode prog_14_method_32_code 41 = .ok (.iand, 1) := by decide +kernel
theorem d_m_union_42 : decode prog_14_method_32_code 42 = .ok (.ifCond .eq 10, 3) := by decide +kernel
theorem d_m_union_45 : decode prog_14_method_32_code 45 = .ok (.iload_n 3, 1) := by decide +kernel
theorem d_m_union_46 : decode prog_14_method_32_code 46 = .ok (.iconst 1, 1) := by decide +kernel
theorem d_m_union_47 : decode prog_14_method_32_code 47 = .ok (.iload 4, 2) := by decide +kernel
theorem d_m_union_49 : decode prog_14_method_32_code 49 = .ok (.ishl, 1) := by decide +kernel
theorem d_m_union_50 : decode prog_14_method_32_code 50 = .ok (.ior, 1) := by decide +kernel
theorem d_m_union_51 : decode prog_14_method_32_code 51 = .ok (.istore_n 3, 1) := by decide +kernel
theorem d_m_union_52 : decode prog_14_method_32_code 52 = .ok (.iinc 4 1, 3) := by decide +kernel
theorem d_m_union_55 : decode prog_14_method_32_code 55 = .ok (.goto (-46), 3) := by decide +kernel
theorem d_m_union_58 : decode prog_14_method_32_code 58 = .ok (.iload_n 3, 1) := by decide +kernel
theorem d_m_union_59 : decode prog_14_method_32_code 59 = .ok (.ireturn, 1) := by decide +kernel
def m_union_L9 (v1_9 : Int32) (v2_9 : Int32) (S_9 : MS) : Nat → Int32 → Int32 → Option Int32
  | 0, _, _ => none
  | n + 1, v3_9, v4_9 => (if inbd (5 * v1_9) 10 = true then (if (gI S_9 2 (txN (5 * v1_9))) ≤ v4_9 then some v3_9 else (if inbd ((12 * v1_9) + v4_9) 24 = true then (if (((gI S_9 8 (txN ((12 * v1_9) + v4_9))) &&& (v2_9 >>> (12 &&& 31))) &&& 15) = 0 then (bd ((v4_9 + 1)) fun a52 => (m_union_L9 v1_9 v2_9 S_9 n) v3_9 a52) else (bd ((v3_9 ||| (1 <<< (v4_9 &&& 31)))) fun a51 => (bd ((v4_9 + 1)) fun a52 => (m_union_L9 v1_9 v2_9 S_9 n) a51 a52))) else none)) else none)
def m_union (x1 : Int32) (x2 : Int32) (S : MS) : Option Int32 := (bd ((x2 &&& 4095)) fun a5 => m_union_L9 x1 x2 S 600 a5 0)
set_option maxHeartbeats 4000000 in
set_option maxRecDepth 100000 in
theorem M_m_union {l : Launch} {D : va_G} {cA : Nat → ClassId} {b : Nat} {ad : Nat → Nat} {x1 : Int32} {x2 : Int32} {S : MS} {T : CS} {o : Nat → Int64} {rr : Int32}  (h : m_union x1 x2 S = some rr) : Met l y_m_union (Cond.code y_m_union prog_14_method_32_code 5 (Option.some Jvm.ClassFile.FieldType.int) :: TW) { frames := 0, cells := 0, slots := 0, locals := 0 } (va_Pc [.ref (b + 262), .int x1, .int x2] (Rp D cA b ad (T, S, o))) (Qr D cA b ad (T, S, o) (some (.int rr))) 0 0 (Ab b) := by
  refine Ct_of (by decide) (Nat.le_of_ble_eq_true rfl) ?_
  intro p e R s m args below meth c ls Q H locs hR hQ hx hb hts hown hml hr hlk hC hX hS hl
  have hRf : R.frames = 0 := by rw [hR]
  have hRl : R.locals = 0 := by rw [hR]
  have hown : s.vm.findClass "TypeGuardModel" = some m.cls := hown
  have hl : lv_has ls 5 [(0, .ref (b + 262)), (1, .int x1), (2, .int x2)] := hl
  rw [m_union] at h
  refine lv_iload_n hx hb d_m_union_0 rfl (lv_at hl 2 rfl) ?_
  refine lv_sipush (v := 4095) hx hb d_m_union_1 (by decide) ?_
  refine lv_iand hx hb d_m_union_4 ?_
  obtain ⟨a5, e5, h⟩ := bd_some h
  refine lt_I e5 ?_
  refine lv_istore_n (lv' := [(3, .int a5), (0, .ref (b + 262)), (1, .int x1), (2, .int x2)]) hx hb d_m_union_5 rfl hl (by decide) rfl (fun ls hl => ?_)
  refine lv_iconst (v := 0) hx hb d_m_union_6 (by decide) ?_
  refine lv_istore (lv' := [(4, .int 0), (3, .int a5), (0, .ref (b + 262)), (1, .int x1), (2, .int x2)]) hx hb d_m_union_7 hl (by decide) rfl (fun ls hl => ?_)
  have L9 : ∀ (n9 : Nat) (v3_9 : Int32) (v4_9 : Int32) (H : Heap) (locs : List Loc) (ls : Array Slot), hp D cA b ad (T, S, o) H → va_S (Ab b) s.heap H locs → lv_has ls 5 [(0, .ref (b + 262)), (1, .int x1), (2, .int x2), (3, .int v3_9), (4, .int v4_9)] → m_union_L9 x1 x2 S n9 v3_9 v4_9 = some rr → W p l e R s m args below meth c H locs 0 0 Q (F0 m 9 ls []) := by
    intro n9; induction n9 with
    | zero => intro v3_9 v4_9 H locs ls  hX hS hl h; rw [m_union_L9] at h; cases h
    | succ n9 ih9 =>
      intro v3_9 v4_9 H locs ls  hX hS hl h
      rw [m_union_L9] at h
      refine lv_iload hx hb d_m_union_9 (lv_at hl 4 rfl) ?_
      refine lv_aload_n hx hb d_m_union_11 rfl (lv_at hl 0 rfl) ?_
      refine m_get_0_13 hx hb hts hown hC hX (by rfl) (hts _ t_1000) d_m_union_12 ?_
      refine lv_iconst (v := 5) hx hb d_m_union_15 (by decide) ?_
      refine lv_iload_n hx hb d_m_union_16 rfl (lv_at hl 1 rfl) ?_
      refine lv_imul hx hb d_m_union_17 ?_
      by_cases hg18 : inbd (5 * x1) 10 = true
      rotate_left; · rw [if_neg hg18] at h; cases h
      rw [if_pos hg18] at h
      refine m_ald_1 (k := 2) hx hb hC hX (by rfl) hg18 d_m_union_18 ?_
      refine lv_icmp_ge hx hb d_m_union_19 (tgt := 58) (by decide) (fun hc => ?_) (fun hc => ?_)
      · rw [if_pos hc] at h
        refine lv_iload_n hx hb d_m_union_58 rfl (lv_at hl 3 rfl) ?_
        obtain rfl := Option.some.inj h
        exact rt_i hQ hx hb hr hX hS hlk d_m_union_59
      · rw [if_neg hc] at h
        refine lv_aload_n hx hb d_m_union_22 rfl (lv_at hl 0 rfl) ?_
        refine m_get_0_19 hx hb hts hown hC hX (by rfl) (hts _ t_1006) d_m_union_23 ?_
        refine lv_bipush (v := 12) hx hb d_m_union_26 (by decide) ?_
        refine lv_iload_n hx hb d_m_union_28 rfl (lv_at hl 1 rfl) ?_
        refine lv_imul hx hb d_m_union_29 ?_
        refine lv_iload hx hb d_m_union_30 (lv_at hl 4 rfl) ?_
        refine lv_iadd hx hb d_m_union_32 ?_
        by_cases hg33 : inbd ((12 * x1) + v4_9) 24 = true
        rotate_left; · rw [if_neg hg33] at h; cases h
        rw [if_pos hg33] at h
        refine m_ald_1 (k := 8) hx hb hC hX (by rfl) hg33 d_m_union_33 ?_
        refine lv_iload_n hx hb d_m_union_34 rfl (lv_at hl 2 rfl) ?_
        refine lv_bipush (v := 12) hx hb d_m_union_35 (by decide) ?_
        refine lv_ishr hx hb d_m_union_37 ?_
        refine lv_iand hx hb d_m_union_38 ?_
        refine lv_bipush (v := 15) hx hb d_m_union_39 (by decide) ?_
        refine lv_iand hx hb d_m_union_41 ?_
        refine lv_if_eq hx hb d_m_union_42 (tgt := 52) (by decide) (fun hc => ?_) (fun hc => ?_)
        · rw [if_pos hc] at h
          obtain ⟨a52, e52, h⟩ := bd_some h
          refine lv_iinc (v := a52) (lv' := [(4, .int a52), (0, .ref (b + 262)), (1, .int x1), (2, .int x2), (3, .int v3_9)]) hx hb d_m_union_52 hl (k := 4) rfl e52.symm (by decide) rfl (fun ls hl => ?_)
          refine lv_goto hx hb d_m_union_55 (tgt := 9) (by decide) ?_
          exact ih9 v3_9 a52 H locs ls  hX hS (lv_sub hl [1, 2, 3, 4, 0] rfl) h
        · rw [if_neg hc] at h
          refine lv_iload_n hx hb d_m_union_45 rfl (lv_at hl 3 rfl) ?_
          refine lv_iconst (v := 1) hx hb d_m_union_46 (by decide) ?_
          refine lv_iload hx hb d_m_union_47 (lv_at hl 4 rfl) ?_
          refine lv_ishl hx hb d_m_union_49 ?_
          refine lv_ior hx hb d_m_union_50 ?_
          obtain ⟨a51, e51, h⟩ := bd_some h
          refine lt_I e51 ?_
          refine lv_istore_n (lv' := [(3, .int a51), (0, .ref (b + 262)), (1, .int x1), (2, .int x2), (4, .int v4_9)]) hx hb d_m_union_51 rfl hl (by decide) rfl (fun ls hl => ?_)
          obtain ⟨a52, e52, h⟩ := bd_some h
          refine lv_iinc (v := a52) (lv' := [(4, .int a52), (3, .int a51), (0, .ref (b + 262)), (1, .int x1), (2, .int x2)]) hx hb d_m_union_52 hl (k := 4) rfl e52.symm (by decide) rfl (fun ls hl => ?_)
          refine lv_goto hx hb d_m_union_55 (tgt := 9) (by decide) ?_
          exact ih9 a51 a52 H locs ls  hX hS (lv_sub hl [2, 3, 4, 1, 0] rfl) h
  exact L9 600 a5 0 H locs ls  hX hS (lv_sub hl [2, 3, 4, 1, 0] rfl) h
abbrev y_m_resolve : MethodName := ({ cls := "TypeGuardModel", name := "resolve", desc := "(II)I" } : Jvm.MethodName)
theorem d_m_resolve_0 : decode prog_14_method_33_code 0 = .ok (.iconst 1, 1) := by decide +kernel
theorem d_m_resolve_1 : decode prog_14_method_33_code 1 = .ok (.aload_n 0, 1) := by decide +kernel
theorem d_m_resolve_2 : decode prog_14_method_33_code 2 = .ok (.getfield 17, 3) := by decide +kernel
theorem d_m_resolve_5 : decode prog_14_method_33_code 5 = .ok (.iconst 5, 1) := by decide +kernel
theorem d_m_resolve_6 : decode prog_14_method_33_code 6 = .ok (.iload_n 1, 1) := by decide +kernel
theorem d_m_resolve_7 : decode prog_14_method_33_code 7 = .ok (.imul, 1) := by decide +kernel
theorem d_m_resolve_8 : decode prog_14_method_33_code 8 = .ok (.iaload, 1) := by decide +kernel
theorem d_m_resolve_9 : decode prog_14_method_33_code 9 = .ok (.ishl, 1) := by decide +kernel
theorem d_m_resolve_10 : decode prog_14_method_33_code 10 = .ok (.iconst 1, 1) := by decide +kernel
theorem d_m_resolve_11 : decode prog_14_method_33_code 11 = .ok (.isub, 1) := by decide +kernel
theorem d_m_resolve_12 : decode prog_14_method_33_code 12 = .ok (.istore_n 3, 1) := by decide +kernel
theorem d_m_resolve_13 : decode prog_14_method_33_code 13 = .ok (.aload_n 0, 1) := by decide +kernel
theorem d_m_resolve_14 : decode prog_14_method_33_code 14 = .ok (.getfield 76, 3) := by decide +kernel
theorem d_m_resolve_17 : decode prog_14_method_33_code 17 = .ok (.iload_n 2, 1) := by decide +kernel
theorem d_m_resolve_18 : decode prog_14_method_33_code 18 = .ok (.iaload, 1) := by decide +kernel
theorem d_m_resolve_19 : decode prog_14_method_33_code 19 = .ok (.bipush 17, 2) := by decide +kernel
theorem d_m_resolve_21 : decode prog_14_method_33_code 21 = .ok (.ishr, 1) := by decide +kernel
theorem d_m_resolve_22 : decode prog_14_method_33_code 22 = .ok (.iconst 1, 1) := by decide +kernel
theorem d_m_resolve_23 : decode prog_14_method_33_code 23 = .ok (.iand, 1) := by decide +kernel
theorem d_m_resolve_24 : decode prog_14_method_33_code 24 = .ok (.iconst 1, 1) := by decide +kernel
theorem d_m_resolve_25 : decode prog_14_method_33_code 25 = .ok (.if_icmp .ne 7, 3) := by decide +kernel
theorem d_m_resolve_28 : decode prog_14_method_33_code 28 = .ok (.iload_n 3, 1) := by decide +kernel
theorem d_m_resolve_29 : decode prog_14_method_33_code 29 = .ok (.goto 28, 3) := by decide +kernel
theorem d_m_resolve_32 : decode prog_14_method_33_code 32 = .ok (.aload_n 0, 1) := by decide +kernel
theorem d_m_resolve_33 : decode prog_14_method_33_code 33 = .ok (.iload_n 1, 1) := by decide +kernel
theorem d_m_resolve_34 : decode prog_14_method_33_code 34 = .ok (.aload_n 0, 1) := by decide +kernel
theorem d_m_resolve_35 : decode prog_14_method_33_code 35 = .ok (.getfield 76, 3) := by decide +kernel
theorem d_m_resolve_38 : decode prog_14_method_33_code 38 = .ok (.iload_n 2, 1) := by decide +kernel
theorem d_m_resolve_39 : decode prog_14_method_33_code 39 = .ok (.iaload, 1) := by decide +kernel
theorem d_m_resolve_40 : decode prog_14_method_33_code 40 = .ok (.invokevirtual 259, 3) := by decide +kernel
theorem d_m_resolve_43 : decode prog_14_method_33_code 43 = .ok (.aload_n 0, 1) := by decide +kernel
theorem d_m_resolve_44 : decode prog_14_method_33_code 44 = .ok (.iload_n 1, 1) := by decide +kernel
theorem d_m_resolve_45 : decode prog_14_method_33_code 45 = .ok (.aload_n 0, 1) := by decide +kernel
theorem d_m_resolve_46 : decode prog_14_method_33_code 46 = .ok (.getfield 79, 3) := by decide +kernel
theorem d_m_resolve_49 : decode prog_14_method_33_code 49 = .ok (.iload_n 2, 1) := by decide +kernel
theorem d_m_resolve_50 : decode prog_14_method_33_code 50 = .ok (.iaload, 1) := by decide +kernel
theorem d_m_resolve_51 : decode prog_14_method_33_code 51 = .ok (.invokevirtual 259, 3) := by decide +kernel
theorem d_m_resolve_54 : decode prog_14_method_33_code 54 = .ok (.iconst (-1), 1) := by decide +kernel
theorem d_m_resolve_55 : decode prog_14_method_33_code 55 = .ok (.ixor, 1) := by decide +kernel
theorem d_m_resolve_56 : decode prog_14_method_33_code 56 = .ok (.iand, 1) := by decide +kernel
theorem d_m_resolve_57 : decode prog_14_method_33_code 57 = .ok (.istore 4, 2) := by decide +kernel
theorem d_m_resolve_59 : decode prog_14_method_33_code 59 = .ok (.aload_n 0, 1) := by decide +kernel
theorem d_m_resolve_60 : decode prog_14_method_33_code 60 = .ok (.getfield 76, 3) := by decide +kernel
theorem d_m_resolve_63 : decode prog_14_method_33_code 63 = .ok (.iload_n 2, 1) := by decide +kernel
theorem d_m_resolve_64 : decode prog_14_method_33_code 64 = .ok (.iaload, 1) := by decide +kernel
theorem d_m_resolve_65 : decode prog_14_method_33_code 65 = .ok (.bipush 16, 2) := by decide +kernel
theorem d_m_resolve_67 : decode prog_14_method_33_code 67 = .ok (.ishr, 1) := by decide +kernel
theorem d_m_resolve_68 : decode prog_14_method_33_code 68 = .ok (.iconst 1, 1) := by decide +kernel
theorem d_m_resolve_69 : decode prog_14_method_33_code 69 = .ok (.iand, 1) := by decide +kernel
theorem d_m_resolve_70 : decode prog_14_method_33_code 70 = .ok (.iconst 1, 1) := by decide +kernel
theorem d_m_resolve_71 : decode prog_14_method_33_code 71 = .ok (.if_icmp .ne 12, 3) := by decide +kernel
theorem d_m_resolve_74 : decode prog_14_method_33_code 74 = .ok (.iload_n 3, 1) := by decide +kernel
theorem d_m_resolve_75 : decode prog_14_method_33_code 75 = .ok (.iload 4, 2) := by decide +kernel
theorem d_m_resolve_77 : decode prog_14_method_33_code 77 = .ok (.iconst (-1), 1) := by decide +kernel
theorem d_m_resolve_78 : decode prog_14_method_33_code 78 = .ok (.ixor, 1) := by decide +kernel
theorem d_m_resolve_79 : decode prog_14_method_33_code 79 = .ok (.iand, 1) := by decide +kernel
theorem d_m_resolve_80 : decode prog_14_method_33_code 80 = .ok (.goto 5, 3) := by decide +kernel
theorem d_m_resolve_83 : decode prog_14_method_33_code 83 = .ok (.iload 4, 2) := by decide +kernel
theorem d_m_resolve_85 : decode prog_14_method_33_code 85 = .ok (.ireturn, 1) := by decide +kernel
def m_resolve_J57 (v2_57 : Int32) (v3_57 : Int32) (s0_57 : Int32) (S_57 : MS) : Option Int32 := (if inbd v2_57 96 = true then (if (((gI S_57 21 (txN v2_57)) >>> (16 &&& 31)) &&& 1) = 1 then some (v3_57 &&& (s0_57 ^^^ (-1))) else some s0_57) else none)
def m_resolve (x1 : Int32) (x2 : Int32) (S : MS) : Option Int32 := (if inbd (5 * x1) 10 = true then (bd (((1 <<< ((gI S 2 (txN (5 * x1))) &&& 31)) - 1)) fun a12 => (if inbd x2 96 = true then (if (((gI S 21 (txN x2)) >>> (17 &&& 31)) &&& 1) = 1 then m_resolve_J57 x2 a12 a12 S else (if inbd x2 96 = true then ((m_union x1 (gI S 21 (txN x2)) S).bind fun q40 => (if inbd x2 96 = true then ((m_union x1 (gI S 22 (txN x2)) S).bind fun q51 => m_resolve_J57 x2 a12 (q40 &&& (q51 ^^^ (-1))) S) else none)) else none)) else none)) else none)
set_option maxHeartbeats 4000000 in
set_option maxRecDepth 100000 in
theorem M_m_resolve {l : Launch} {D : va_G} {cA : Nat → ClassId} {b : Nat} {ad : Nat → Nat} {x1 : Int32} {x2 : Int32} {S : MS} {T : CS} {o : Nat → Int64} {rr : Int32}  (h : m_resolve x1 x2 S = some rr) : Met l y_m_resolve (Cond.code y_m_resolve prog_14_method_33_code 5 (Option.some Jvm.ClassFile.FieldType.int) :: TW) { frames := 1, cells := 0, slots := 0, locals := 24 } (va_Pc [.ref (b + 262), .int x1, .int x2] (Rp D cA b ad (T, S, o))) (Qr D cA b ad (T, S, o) (some (.int rr))) 0 0 (Ab b) := by
  refine Ct_of (by decide) (Nat.le_of_ble_eq_true rfl) ?_
  intro p e R s m args below meth c ls Q H locs hR hQ hx hb hts hown hml hr hlk hC hX hS hl
  have hRf : R.frames = 1 := by rw [hR]
  have hRl : R.locals = 24 := by rw [hR]
  have hown : s.vm.findClass "TypeGuardModel" = some m.cls := hown
  have hl : lv_has ls 5 [(0, .ref (b + 262)), (1, .int x1), (2, .int x2)] := hl
  rw [m_resolve] at h
  refine lv_iconst (v := 1) hx hb d_m_resolve_0 (by decide) ?_
  refine lv_aload_n hx hb d_m_resolve_1 rfl (lv_at hl 0 rfl) ?_
  refine m_get_0_13 hx hb hts hown hC hX (by rfl) (hts _ t_1000) d_m_resolve_2 ?_
  refine lv_iconst (v := 5) hx hb d_m_resolve_5 (by decide) ?_
  refine lv_iload_n hx hb d_m_resolve_6 rfl (lv_at hl 1 rfl) ?_
  refine lv_imul hx hb d_m_resolve_7 ?_
  by_cases hg8 : inbd (5 * x1) 10 = true
  rotate_left; · rw [if_neg hg8] at h; cases h
  rw [if_pos hg8] at h
  refine m_ald_1 (k := 2) hx hb hC hX (by rfl) hg8 d_m_resolve_8 ?_
  refine lv_ishl hx hb d_m_resolve_9 ?_
  refine lv_iconst (v := 1) hx hb d_m_resolve_10 (by decide) ?_
  refine lv_isub hx hb d_m_resolve_11 ?_
  obtain ⟨a12, e12, h⟩ := bd_some h
  refine lt_I e12 ?_
  refine lv_istore_n (lv' := [(3, .int a12), (0, .ref (b + 262)), (1, .int x1), (2, .int x2)]) hx hb d_m_resolve_12 rfl hl (by decide) rfl (fun ls hl => ?_)
  refine lv_aload_n hx hb d_m_resolve_13 rfl (lv_at hl 1 rfl) ?_
  refine m_get_0_32 hx hb hts hown hC hX (by rfl) (hts _ t_1019) d_m_resolve_14 ?_
  refine lv_iload_n hx hb d_m_resolve_17 rfl (lv_at hl 3 rfl) ?_
  by_cases hg18 : inbd x2 96 = true
  rotate_left; · rw [if_neg hg18] at h; cases h
  rw [if_pos hg18] at h
  refine m_ald_1 (k := 21) hx hb hC hX (by rfl) hg18 d_m_resolve_18 ?_
  refine lv_bipush (v := 17) hx hb d_m_resolve_19 (by decide) ?_
  refine lv_ishr hx hb d_m_resolve_21 ?_
  refine lv_iconst (v := 1) hx hb d_m_resolve_22 (by decide) ?_
  refine lv_iand hx hb d_m_resolve_23 ?_
  refine lv_iconst (v := 1) hx hb d_m_resolve_24 (by decide) ?_
  have J57 : ∀ (s0_57 : Int32) (H : Heap) (locs : List Loc) (ls : Array Slot), hp D cA b ad (T, S, o) H → va_S (Ab b) s.heap H locs → lv_has ls 5 [(0, .ref (b + 262)), (2, .int x2), (3, .int a12)] → m_resolve_J57 x2 a12 s0_57 S = some rr → W p l e R s m args below meth c H locs 0 0 Q (F0 m 57 ls [.int s0_57]) := by
    intro s0_57 H locs ls  hX hS hl h
    rw [m_resolve_J57] at h
    refine lv_istore (lv' := [(4, .int s0_57), (0, .ref (b + 262)), (2, .int x2), (3, .int a12)]) hx hb d_m_resolve_57 hl (by decide) rfl (fun ls hl => ?_)
    refine lv_aload_n hx hb d_m_resolve_59 rfl (lv_at hl 1 rfl) ?_
    refine m_get_0_32 hx hb hts hown hC hX (by rfl) (hts _ t_1019) d_m_resolve_60 ?_
    refine lv_iload_n hx hb d_m_resolve_63 rfl (lv_at hl 2 rfl) ?_
    by_cases hg64 : inbd x2 96 = true
    rotate_left; · rw [if_neg hg64] at h; cases h
    rw [if_pos hg64] at h
    refine m_ald_1 (k := 21) hx hb hC hX (by rfl) hg64 d_m_resolve_64 ?_
    refine lv_bipush (v := 16) hx hb d_m_resolve_65 (by decide) ?_
    refine lv_ishr hx hb d_m_resolve_67 ?_
    refine lv_iconst (v := 1) hx hb d_m_resolve_68 (by decide) ?_
    refine lv_iand hx hb d_m_resolve_69 ?_
    refine lv_iconst (v := 1) hx hb d_m_resolve_70 (by decide) ?_
    refine lv_icmp_ne hx hb d_m_resolve_71 (tgt := 83) (by decide) (fun hc => ?_) (fun hc => ?_)
    · rw [if_neg hc] at h
      refine lv_iload hx hb d_m_resolve_83 (lv_at hl 0 rfl) ?_
      obtain rfl := Option.some.inj h
      exact rt_i hQ hx hb hr hX hS hlk d_m_resolve_85
    · rw [if_pos hc] at h
      refine lv_iload_n hx hb d_m_resolve_74 rfl (lv_at hl 3 rfl) ?_
      refine lv_iload hx hb d_m_resolve_75 (lv_at hl 0 rfl) ?_
      refine lv_iconst (v := (-1)) hx hb d_m_resolve_77 (by decide) ?_
      refine lv_ixor hx hb d_m_resolve_78 ?_
      refine lv_iand hx hb d_m_resolve_79 ?_
      refine lv_goto hx hb d_m_resolve_80 (tgt := 85) (by decide) ?_
      obtain rfl := Option.some.inj h
      exact rt_i hQ hx hb hr hX hS hlk d_m_resolve_85
  refine lv_icmp_ne hx hb d_m_resolve_25 (tgt := 32) (by decide) (fun hc => ?_) (fun hc => ?_)
  · rw [if_neg hc] at h
    refine lv_aload_n hx hb d_m_resolve_32 rfl (lv_at hl 1 rfl) ?_
    refine lv_iload_n hx hb d_m_resolve_33 rfl (lv_at hl 2 rfl) ?_
    refine lv_aload_n hx hb d_m_resolve_34 rfl (lv_at hl 1 rfl) ?_
    refine m_get_0_32 hx hb hts hown hC hX (by rfl) (hts _ t_1019) d_m_resolve_35 ?_
    refine lv_iload_n hx hb d_m_resolve_38 rfl (lv_at hl 3 rfl) ?_
    by_cases hg39 : inbd x2 96 = true
    rotate_left; · rw [if_neg hg39] at h; cases h
    rw [if_pos hg39] at h
    refine m_ald_1 (k := 21) hx hb hC hX (by rfl) hg39 d_m_resolve_39 ?_
    obtain ⟨q40, hc40, h⟩ := Option.bind_eq_some_iff.mp h
    refine ck_V (As := [.int x1, .int (gI S 21 (txN x2))]) (rest := []) (st1 := [.int q40]) (M_m_union  hc40) t_1276 t_1278 p_63 t_1279 t_13 hx hb hts hown hC hX hS (hrc_m0 hC hX (by rfl)) hml hl.1 ⟨by rw [hRf]; decide, by rw [hRl]; decide⟩ ⟨rfl, rfl⟩ (n := 2) (by decide +kernel) rfl rfl rfl (lv_room (Nat.le_of_ble_eq_true rfl)) d_m_resolve_40 (fun H locs hX hS => ?_)
    refine lv_aload_n hx hb d_m_resolve_43 rfl (lv_at hl 1 rfl) ?_
    refine lv_iload_n hx hb d_m_resolve_44 rfl (lv_at hl 2 rfl) ?_
    refine lv_aload_n hx hb d_m_resolve_45 rfl (lv_at hl 1 rfl) ?_
    refine m_get_0_33 hx hb hts hown hC hX (by rfl) (hts _ t_1020) d_m_resolve_46 ?_
    refine lv_iload_n hx hb d_m_resolve_49 rfl (lv_at hl 3 rfl) ?_
    by_cases hg50 : inbd x2 96 = true
    rotate_left; · rw [if_neg hg50] at h; cases h
    rw [if_pos hg50] at h
    refine m_ald_1 (k := 22) hx hb hC hX (by rfl) hg50 d_m_resolve_50 ?_
    obtain ⟨q51, hc51, h⟩ := Option.bind_eq_some_iff.mp h
    refine ck_V (As := [.int x1, .int (gI S 22 (txN x2))]) (rest := [.int q40]) (st1 := [.int q51, .int q40]) (M_m_union  hc51) t_1276 t_1278 p_63 t_1279 t_13 hx hb hts hown hC hX hS (hrc_m0 hC hX (by rfl)) hml hl.1 ⟨by rw [hRf]; decide, by rw [hRl]; decide⟩ ⟨rfl, rfl⟩ (n := 2) (by decide +kernel) rfl rfl rfl (lv_room (Nat.le_of_ble_eq_true rfl)) d_m_resolve_51 (fun H locs hX hS => ?_)
    refine lv_iconst (v := (-1)) hx hb d_m_resolve_54 (by decide) ?_
    refine lv_ixor hx hb d_m_resolve_55 ?_
    refine lv_iand hx hb d_m_resolve_56 ?_
    exact J57 (q40 &&& (q51 ^^^ (-1))) H locs ls  hX hS (lv_sub hl [1, 3, 0] rfl) h
  · rw [if_pos hc] at h
    refine lv_iload_n hx hb d_m_resolve_28 rfl (lv_at hl 0 rfl) ?_
    refine lv_goto hx hb d_m_resolve_29 (tgt := 57) (by decide) ?_
    exact J57 a12 H locs ls  hX hS (lv_sub hl [1, 3, 0] rfl) h
