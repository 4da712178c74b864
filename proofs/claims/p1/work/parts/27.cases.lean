def st_0 (a1 a2 a3 a4 : Int32) (Z : ST) : Option ST := ((cG_type ((lSh a1.toInt64 32) ||| (a2.toInt64 &&& 4294967295)) a3 Z.1).bind fun q141 => ((m_type ((lSh a1.toInt64 32) ||| (a2.toInt64 &&& 4294967295)) a3 Z.2.1).bind fun q173 => (if bI q141.2 = bI q173.2 then some (q141.1, q173.1, Z.2.2) else none)))
set_option maxHeartbeats 4000000 in
set_option maxRecDepth 100000 in
theorem L_0 {p : Program} {l : Launch} {e : Env} {R : Room} {s : State} {m : MethodId} {args : Array Value} {below : List Frame} {meth : Method} {c : Code} {H : Heap} {locs : List Loc} {cells slots : Nat} {Q : State → Prop} {ls : Array Slot} {D : va_G} {cA : Nat → ClassId} {b : Nat} {ad : Nat → Nat} {sb L : Nat} {xs : Nat → Int32} {i a1 a2 a3 a4 : Int32} {Z Z2 : ST} (hT : ∀ e, l.admits e → e.platform.stackTraces = false) (hR : R = room_1) (hx : p.tables.exec = Jvm.exec) (hb : c.code = code) (hts : ∀ w ∈ TW, w.before args s = true) (hown : s.vm.findClass "TypeGuardLaw" = some m.cls) (hml : c.maxLocals = 7) (hC : Cx D cA b ad s) (hY : Cy b s) (hSc : va_X sb L xs s s.heap) (hsb : sb < s.heap.size) (hsA : ¬ Ab b sb) (hi1 : inbd (i + 1) L = true) (hi2 : inbd (i + 2) L = true) (hi3 : inbd (i + 3) L = true) (hi4 : inbd (i + 4) L = true) (e1 : a1 = xs (txN (i + 1))) (e2 : a2 = xs (txN (i + 2))) (e3 : a3 = xs (txN (i + 3))) (e4 : a4 = xs (txN (i + 4))) (hX : hp D cA b ad Z H) (hS : va_S (Ab b) s.heap H locs) (hl : lv_has ls 7 [(0, .ref sb), (1, .ref (b + 0)), (2, .ref (b + 262)), (3, .ref (b + 293)), (4, .int i)]) (hcs : cells + 1 ≤ R.cells ∧ slots + 6 ≤ R.slots) (kk : ∀ (H : Heap) (locs : List Loc) (ls : Array Slot) (cn sn : Nat), cn ≤ cells + 1 → sn ≤ slots + 6 → hp D cA b ad Z2 H → va_S (Ab b) s.heap H locs → lv_has ls 7 [(0, .ref sb), (1, .ref (b + 0)), (2, .ref (b + 262)), (3, .ref (b + 293)), (4, .int i)] → W p l e R s m args below meth c H locs cn sn Q (F0 m 992 ls [])) (h : st_0 a1 a2 a3 a4 Z = some Z2) : W p l e R s m args below meth c H locs cells slots Q (F0 m 112 ls []) := by
  rw [st_0] at h
  have hc0 : cells ≤ R.cells ∧ slots ≤ R.slots := ⟨by omega, by omega⟩
  have hX : hp D cA b ad (Z.1, Z.2.1, Z.2.2) H := hX
  refine lv_aload_n hx hb d_w_law_112 rfl (lv_at hl 1 rfl) ?_
  refine lv_aload_n hx hb d_w_law_113 rfl (lv_at hl 0 rfl) ?_
  refine lv_iload hx hb d_w_law_114 (lv_at hl 4 rfl) ?_
  refine lv_iconst (v := 1) hx hb d_w_law_116 (by decide) ?_
  refine lv_iadd hx hb d_w_law_117 ?_
  refine va_sld hx hb hSc hsb hsA hS (inbd_in hi1) d_w_law_118 ?_
  refine lt_I e1 ?_
  refine lv_i2l (v := a1.toInt64) hx hb d_w_law_119 rfl ?_
  refine lv_bipush (v := 32) hx hb d_w_law_120 (by decide) ?_
  refine lv_lshl (v := (lSh a1.toInt64 32)) hx hb d_w_law_122 rfl ?_
  refine lv_aload_n hx hb d_w_law_123 rfl (lv_at hl 0 rfl) ?_
  refine lv_iload hx hb d_w_law_124 (lv_at hl 4 rfl) ?_
  refine lv_iconst (v := 2) hx hb d_w_law_126 (by decide) ?_
  refine lv_iadd hx hb d_w_law_127 ?_
  refine va_sld hx hb hSc hsb hsA hS (inbd_in hi2) d_w_law_128 ?_
  refine lt_I e2 ?_
  refine lv_i2l (v := a2.toInt64) hx hb d_w_law_129 rfl ?_
  refine lv_ldc2 (v := 4294967295) hx hb hown (hts _ t_1390) d_w_law_130 ?_
  refine lv_land hx hb d_w_law_133 ?_
  refine lv_lor hx hb d_w_law_134 ?_
  refine lv_aload_n hx hb d_w_law_135 rfl (lv_at hl 0 rfl) ?_
  refine lv_iload hx hb d_w_law_136 (lv_at hl 4 rfl) ?_
  refine lv_iconst (v := 3) hx hb d_w_law_138 (by decide) ?_
  refine lv_iadd hx hb d_w_law_139 ?_
  refine va_sld hx hb hSc hsb hsA hS (inbd_in hi3) d_w_law_140 ?_
  refine lt_I e3 ?_
  obtain ⟨q141, hc141, h⟩ := Option.bind_eq_some_iff.mp h
  refine ck_VC (As := [.long ((lSh a1.toInt64 32) ||| (a2.toInt64 &&& 4294967295)), .int a3]) (rest := []) (st1 := [.int (bI q141.2)]) (M_cG_type (T := (Z.2.1, Z.2.2)) hc141) t_359 t_360 t_361 t_362 t_1 hx hb hts hown hC hX hS (hrc_c0 hC hX (by rfl)) hml hl.1 ⟨by rw [hR]; decide, by rw [hR]; decide⟩ ⟨rfl, rfl⟩ (n := 2) (by decide +kernel) rfl rfl rfl (lv_room (Nat.le_of_ble_eq_true rfl)) d_w_law_141 hc0 (fun H locs hX hS => ?_)
  have hX : hp D cA b ad (q141.1, Z.2.1, Z.2.2) H := hX
  refine lv_aload_n hx hb d_w_law_144 rfl (lv_at hl 2 rfl) ?_
  refine lv_aload_n hx hb d_w_law_145 rfl (lv_at hl 0 rfl) ?_
  refine lv_iload hx hb d_w_law_146 (lv_at hl 4 rfl) ?_
  refine lv_iconst (v := 1) hx hb d_w_law_148 (by decide) ?_
  refine lv_iadd hx hb d_w_law_149 ?_
  refine va_sld hx hb hSc hsb hsA hS (inbd_in hi1) d_w_law_150 ?_
  refine lt_I e1 ?_
  refine lv_i2l (v := a1.toInt64) hx hb d_w_law_151 rfl ?_
  refine lv_bipush (v := 32) hx hb d_w_law_152 (by decide) ?_
  refine lv_lshl (v := (lSh a1.toInt64 32)) hx hb d_w_law_154 rfl ?_
  refine lv_aload_n hx hb d_w_law_155 rfl (lv_at hl 0 rfl) ?_
  refine lv_iload hx hb d_w_law_156 (lv_at hl 4 rfl) ?_
  refine lv_iconst (v := 2) hx hb d_w_law_158 (by decide) ?_
  refine lv_iadd hx hb d_w_law_159 ?_
  refine va_sld hx hb hSc hsb hsA hS (inbd_in hi2) d_w_law_160 ?_
  refine lt_I e2 ?_
  refine lv_i2l (v := a2.toInt64) hx hb d_w_law_161 rfl ?_
  refine lv_ldc2 (v := 4294967295) hx hb hown (hts _ t_1390) d_w_law_162 ?_
  refine lv_land hx hb d_w_law_165 ?_
  refine lv_lor hx hb d_w_law_166 ?_
  refine lv_aload_n hx hb d_w_law_167 rfl (lv_at hl 0 rfl) ?_
  refine lv_iload hx hb d_w_law_168 (lv_at hl 4 rfl) ?_
  refine lv_iconst (v := 3) hx hb d_w_law_170 (by decide) ?_
  refine lv_iadd hx hb d_w_law_171 ?_
  refine va_sld hx hb hSc hsb hsA hS (inbd_in hi3) d_w_law_172 ?_
  refine lt_I e3 ?_
  obtain ⟨q173, hc173, h⟩ := Option.bind_eq_some_iff.mp h
  refine ck_VC (As := [.long ((lSh a1.toInt64 32) ||| (a2.toInt64 &&& 4294967295)), .int a3]) (rest := [.int (bI q141.2)]) (st1 := [.int (bI q173.2), .int (bI q141.2)]) (M_m_type (T := q141.1) (o := Z.2.2) hc173) t_1136 t_1137 t_1138 t_1139 t_13 hx hb hts hown hC hX hS (hrc_m0 hC hX (by rfl)) hml hl.1 ⟨by rw [hR]; decide, by rw [hR]; decide⟩ ⟨rfl, rfl⟩ (n := 2) (by decide +kernel) rfl rfl rfl (lv_room (Nat.le_of_ble_eq_true rfl)) d_w_law_173 hc0 (fun H locs hX hS => ?_)
  have hX : hp D cA b ad (q141.1, q173.1, Z.2.2) H := hX
  refine lv_icmp_eq hx hb d_w_law_176 (tgt := 992) (by decide) (fun hc => ?_) (fun hc => ?_)
  · rw [if_pos hc] at h
    obtain rfl := Option.some.inj h
    exact kk H locs ls _ _ (Nat.le_add_right _ _) (Nat.le_add_right _ _) hX hS (lv_sub hl [0, 1, 2, 3, 4] rfl)
  · rw [if_neg hc] at h
    cases h
def st_1 (a1 a2 a3 a4 : Int32) (Z : ST) : Option ST := ((w_load  (Z.1, Z.2.1, Z.2.2)).bind fun q183 => ((m_load  q183.1.2.1).bind fun q189 => ((m_thrown  q189.1).bind fun q195 => (if q195 = q183.2 then (if q183.2 = 0 then (if (q183.1.2.2 0) = q189.2.toInt64 then some (q183.1.1, q189.1, q183.1.2.2) else none) else some (q183.1.1, q189.1, q183.1.2.2)) else none))))
set_option maxHeartbeats 4000000 in
set_option maxRecDepth 100000 in
theorem L_1 {p : Program} {l : Launch} {e : Env} {R : Room} {s : State} {m : MethodId} {args : Array Value} {below : List Frame} {meth : Method} {c : Code} {H : Heap} {locs : List Loc} {cells slots : Nat} {Q : State → Prop} {ls : Array Slot} {D : va_G} {cA : Nat → ClassId} {b : Nat} {ad : Nat → Nat} {sb L : Nat} {xs : Nat → Int32} {i a1 a2 a3 a4 : Int32} {Z Z2 : ST} (hT : ∀ e, l.admits e → e.platform.stackTraces = false) (hR : R = room_1) (hx : p.tables.exec = Jvm.exec) (hb : c.code = code) (hts : ∀ w ∈ TW, w.before args s = true) (hown : s.vm.findClass "TypeGuardLaw" = some m.cls) (hml : c.maxLocals = 7) (hC : Cx D cA b ad s) (hY : Cy b s) (hSc : va_X sb L xs s s.heap) (hsb : sb < s.heap.size) (hsA : ¬ Ab b sb) (hi1 : inbd (i + 1) L = true) (hi2 : inbd (i + 2) L = true) (hi3 : inbd (i + 3) L = true) (hi4 : inbd (i + 4) L = true) (e1 : a1 = xs (txN (i + 1))) (e2 : a2 = xs (txN (i + 2))) (e3 : a3 = xs (txN (i + 3))) (e4 : a4 = xs (txN (i + 4))) (hX : hp D cA b ad Z H) (hS : va_S (Ab b) s.heap H locs) (hl : lv_has ls 7 [(0, .ref sb), (1, .ref (b + 0)), (2, .ref (b + 262)), (3, .ref (b + 293)), (4, .int i)]) (hcs : cells + 1 ≤ R.cells ∧ slots + 6 ≤ R.slots) (kk : ∀ (H : Heap) (locs : List Loc) (ls : Array Slot) (cn sn : Nat), cn ≤ cells + 1 → sn ≤ slots + 6 → hp D cA b ad Z2 H → va_S (Ab b) s.heap H locs → lv_has ls 7 [(0, .ref sb), (1, .ref (b + 0)), (2, .ref (b + 262)), (3, .ref (b + 293)), (4, .int i)] → W p l e R s m args below meth c H locs cn sn Q (F0 m 992 ls [])) (h : st_1 a1 a2 a3 a4 Z = some Z2) : W p l e R s m args below meth c H locs cells slots Q (F0 m 181 ls []) := by
  rw [st_1] at h
  have hc0 : cells ≤ R.cells ∧ slots ≤ R.slots := ⟨by omega, by omega⟩
  have hX : hp D cA b ad (Z.1, Z.2.1, Z.2.2) H := hX
  refine lv_aload_n hx hb d_w_law_181 rfl (lv_at hl 1 rfl) ?_
  refine lv_aload_n hx hb d_w_law_182 rfl (lv_at hl 3 rfl) ?_
  obtain ⟨q183, hc183, h⟩ := Option.bind_eq_some_iff.mp h
  refine ck_SW (As := [.ref (b + 0), .ref (b + 293)]) (rest := []) (st1 := [.int q183.2]) (M_w_load hT hc183) t_419 t_420 t_421 t_0 hx hb hts hown hC hY hX hS hml hl.1 ⟨by rw [hR]; decide, by rw [hR]; decide⟩ ⟨rfl, rfl⟩ (n := 2) (by decide +kernel) rfl rfl rfl (lv_room (Nat.le_of_ble_eq_true rfl)) d_w_law_183 hcs (fun H locs hX hS => ?_)
  have hX : hp D cA b ad (q183.1.1, q183.1.2.1, q183.1.2.2) H := hX
  refine lv_istore (lv' := [(5, .int q183.2), (0, .ref sb), (1, .ref (b + 0)), (2, .ref (b + 262)), (3, .ref (b + 293)), (4, .int i)]) hx hb d_w_law_186 hl (by decide) rfl (fun ls hl => ?_)
  refine lv_aload_n hx hb d_w_law_188 rfl (lv_at hl 3 rfl) ?_
  obtain ⟨q189, hc189, h⟩ := Option.bind_eq_some_iff.mp h
  refine ck_VC (As := []) (rest := []) (st1 := [.int q189.2]) (M_m_load (T := q183.1.1) (o := q183.1.2.2) hc189) t_1141 t_1142 t_1143 t_1144 t_13 hx hb hts hown hC hX hS (hrc_m0 hC hX (by rfl)) hml hl.1 ⟨by rw [hR]; decide, by rw [hR]; decide⟩ ⟨rfl, rfl⟩ (n := 0) (by decide +kernel) rfl rfl rfl (lv_room (Nat.le_of_ble_eq_true rfl)) d_w_law_189 hcs (fun H locs hX hS => ?_)
  have hX : hp D cA b ad (q183.1.1, q189.1, q183.1.2.2) H := hX
  refine lv_istore (lv' := [(6, .int q189.2), (5, .int q183.2), (0, .ref sb), (1, .ref (b + 0)), (2, .ref (b + 262)), (3, .ref (b + 293)), (4, .int i)]) hx hb d_w_law_192 hl (by decide) rfl (fun ls hl => ?_)
  refine lv_aload_n hx hb d_w_law_194 rfl (lv_at hl 4 rfl) ?_
  obtain ⟨q195, hc195, h⟩ := Option.bind_eq_some_iff.mp h
  refine ck_VC (As := []) (rest := []) (st1 := [.int q195]) (M_m_thrown (T := q183.1.1) (o := q183.1.2.2) hc195) t_1132 t_1133 t_1134 t_1135 t_13 hx hb hts hown hC hX hS (hrc_m0 hC hX (by rfl)) hml hl.1 ⟨by rw [hR]; decide, by rw [hR]; decide⟩ ⟨rfl, rfl⟩ (n := 0) (by decide +kernel) rfl rfl rfl (lv_room (Nat.le_of_ble_eq_true rfl)) d_w_law_195 hcs (fun H locs hX hS => ?_)
  have hX : hp D cA b ad (q183.1.1, q189.1, q183.1.2.2) H := hX
  refine lv_iload hx hb d_w_law_198 (lv_at hl 1 rfl) ?_
  refine lv_icmp_eq hx hb d_w_law_200 (tgt := 205) (by decide) (fun hc => ?_) (fun hc => ?_)
  · rw [if_pos hc] at h
    refine lv_iload hx hb d_w_law_205 (lv_at hl 1 rfl) ?_
    refine lv_if_ne hx hb d_w_law_207 (tgt := 222) (by decide) (fun hc207 => ?_) (fun hc207 => ?_)
    · rw [if_neg hc207] at h
      refine lv_goto hx hb d_w_law_222 (tgt := 992) (by decide) ?_
      obtain rfl := Option.some.inj h
      exact kk H locs ls _ _ (Nat.le_refl _) (Nat.le_refl _) hX hS (lv_sub hl [2, 3, 4, 5, 6] rfl)
    · rw [if_pos hc207] at h
      refine lv_aload_n hx hb d_w_law_210 rfl (lv_at hl 5 rfl) ?_
      refine lv_iconst (v := 0) hx hb d_w_law_211 (by decide) ?_
      refine o_ald hx hb hC hX d_w_law_212 ?_
      refine lv_iload hx hb d_w_law_213 (lv_at hl 0 rfl) ?_
      refine lv_i2l (v := q189.2.toInt64) hx hb d_w_law_215 rfl ?_
      refine lx_ifeq hx hb d_w_law_216 d_w_law_217 (tgt := 222) (by decide) (fun hc => ?_) (fun hc => ?_)
      · rw [if_pos hc] at h
        refine lv_goto hx hb d_w_law_222 (tgt := 992) (by decide) ?_
        obtain rfl := Option.some.inj h
        exact kk H locs ls _ _ (Nat.le_refl _) (Nat.le_refl _) hX hS (lv_sub hl [2, 3, 4, 5, 6] rfl)
      · rw [if_neg hc] at h
        cases h
  · rw [if_neg hc] at h
    cases h
def st_2 (a1 a2 a3 a4 : Int32) (Z : ST) : Option ST := ((cG_fault a1 Z.1).bind fun q232 => ((m_fault a1 Z.2.1).bind fun q242 => (if q232 = q242.2 then some (Z.1, q242.1, Z.2.2) else none)))
set_option maxHeartbeats 4000000 in
set_option maxRecDepth 100000 in
theorem L_2 {p : Program} {l : Launch} {e : Env} {R : Room} {s : State} {m : MethodId} {args : Array Value} {below : List Frame} {meth : Method} {c : Code} {H : Heap} {locs : List Loc} {cells slots : Nat} {Q : State → Prop} {ls : Array Slot} {D : va_G} {cA : Nat → ClassId} {b : Nat} {ad : Nat → Nat} {sb L : Nat} {xs : Nat → Int32} {i a1 a2 a3 a4 : Int32} {Z Z2 : ST} (hT : ∀ e, l.admits e → e.platform.stackTraces = false) (hR : R = room_1) (hx : p.tables.exec = Jvm.exec) (hb : c.code = code) (hts : ∀ w ∈ TW, w.before args s = true) (hown : s.vm.findClass "TypeGuardLaw" = some m.cls) (hml : c.maxLocals = 7) (hC : Cx D cA b ad s) (hY : Cy b s) (hSc : va_X sb L xs s s.heap) (hsb : sb < s.heap.size) (hsA : ¬ Ab b sb) (hi1 : inbd (i + 1) L = true) (hi2 : inbd (i + 2) L = true) (hi3 : inbd (i + 3) L = true) (hi4 : inbd (i + 4) L = true) (e1 : a1 = xs (txN (i + 1))) (e2 : a2 = xs (txN (i + 2))) (e3 : a3 = xs (txN (i + 3))) (e4 : a4 = xs (txN (i + 4))) (hX : hp D cA b ad Z H) (hS : va_S (Ab b) s.heap H locs) (hl : lv_has ls 7 [(0, .ref sb), (1, .ref (b + 0)), (2, .ref (b + 262)), (3, .ref (b + 293)), (4, .int i)]) (hcs : cells + 1 ≤ R.cells ∧ slots + 6 ≤ R.slots) (kk : ∀ (H : Heap) (locs : List Loc) (ls : Array Slot) (cn sn : Nat), cn ≤ cells + 1 → sn ≤ slots + 6 → hp D cA b ad Z2 H → va_S (Ab b) s.heap H locs → lv_has ls 7 [(0, .ref sb), (1, .ref (b + 0)), (2, .ref (b + 262)), (3, .ref (b + 293)), (4, .int i)] → W p l e R s m args below meth c H locs cn sn Q (F0 m 992 ls [])) (h : st_2 a1 a2 a3 a4 Z = some Z2) : W p l e R s m args below meth c H locs cells slots Q (F0 m 225 ls []) := by
  rw [st_2] at h
  have hc0 : cells ≤ R.cells ∧ slots ≤ R.slots := ⟨by omega, by omega⟩
  have hX : hp D cA b ad (Z.1, Z.2.1, Z.2.2) H := hX
  refine lv_aload_n hx hb d_w_law_225 rfl (lv_at hl 1 rfl) ?_
  refine lv_aload_n hx hb d_w_law_226 rfl (lv_at hl 0 rfl) ?_
  refine lv_iload hx hb d_w_law_227 (lv_at hl 4 rfl) ?_
  refine lv_iconst (v := 1) hx hb d_w_law_229 (by decide) ?_
  refine lv_iadd hx hb d_w_law_230 ?_
  refine va_sld hx hb hSc hsb hsA hS (inbd_in hi1) d_w_law_231 ?_
  refine lt_I e1 ?_
  obtain ⟨q232, hc232, h⟩ := Option.bind_eq_some_iff.mp h
  refine ck_VC (As := [.int a1]) (rest := []) (st1 := [.int q232]) (M_cG_fault (T := (Z.2.1, Z.2.2)) hc232) t_366 t_367 t_368 t_369 t_1 hx hb hts hown hC hX hS (hrc_c0 hC hX (by rfl)) hml hl.1 ⟨by rw [hR]; decide, by rw [hR]; decide⟩ ⟨rfl, rfl⟩ (n := 1) (by decide +kernel) rfl rfl rfl (lv_room (Nat.le_of_ble_eq_true rfl)) d_w_law_232 hc0 (fun H locs hX hS => ?_)
  have hX : hp D cA b ad (Z.1, Z.2.1, Z.2.2) H := hX
  refine lv_aload_n hx hb d_w_law_235 rfl (lv_at hl 2 rfl) ?_
  refine lv_aload_n hx hb d_w_law_236 rfl (lv_at hl 0 rfl) ?_
  refine lv_iload hx hb d_w_law_237 (lv_at hl 4 rfl) ?_
  refine lv_iconst (v := 1) hx hb d_w_law_239 (by decide) ?_
  refine lv_iadd hx hb d_w_law_240 ?_
  refine va_sld hx hb hSc hsb hsA hS (inbd_in hi1) d_w_law_241 ?_
  refine lt_I e1 ?_
  obtain ⟨q242, hc242, h⟩ := Option.bind_eq_some_iff.mp h
  refine ck_VC (As := [.int a1]) (rest := [.int q232]) (st1 := [.int q242.2, .int q232]) (M_m_fault (T := Z.1) (o := Z.2.2) hc242) t_1292 t_1293 t_1294 t_1295 t_13 hx hb hts hown hC hX hS (hrc_m0 hC hX (by rfl)) hml hl.1 ⟨by rw [hR]; decide, by rw [hR]; decide⟩ ⟨rfl, rfl⟩ (n := 1) (by decide +kernel) rfl rfl rfl (lv_room (Nat.le_of_ble_eq_true rfl)) d_w_law_242 hc0 (fun H locs hX hS => ?_)
  have hX : hp D cA b ad (Z.1, q242.1, Z.2.2) H := hX
  refine lv_icmp_eq hx hb d_w_law_245 (tgt := 992) (by decide) (fun hc => ?_) (fun hc => ?_)
  · rw [if_pos hc] at h
    obtain rfl := Option.some.inj h
    exact kk H locs ls _ _ (Nat.le_add_right _ _) (Nat.le_add_right _ _) hX hS (lv_sub hl [0, 1, 2, 3, 4] rfl)
  · rw [if_neg hc] at h
    cases h
def st_3 (a1 a2 a3 a4 : Int32) (Z : ST) : Option ST := ((cG_count a1 Z.1).bind fun q257 => ((m_count a1 Z.2.1).bind fun q267 => (if q257 = q267.2 then some (Z.1, q267.1, Z.2.2) else none)))
set_option maxHeartbeats 4000000 in
set_option maxRecDepth 100000 in
theorem L_3 {p : Program} {l : Launch} {e : Env} {R : Room} {s : State} {m : MethodId} {args : Array Value} {below : List Frame} {meth : Method} {c : Code} {H : Heap} {locs : List Loc} {cells slots : Nat} {Q : State → Prop} {ls : Array Slot} {D : va_G} {cA : Nat → ClassId} {b : Nat} {ad : Nat → Nat} {sb L : Nat} {xs : Nat → Int32} {i a1 a2 a3 a4 : Int32} {Z Z2 : ST} (hT : ∀ e, l.admits e → e.platform.stackTraces = false) (hR : R = room_1) (hx : p.tables.exec = Jvm.exec) (hb : c.code = code) (hts : ∀ w ∈ TW, w.before args s = true) (hown : s.vm.findClass "TypeGuardLaw" = some m.cls) (hml : c.maxLocals = 7) (hC : Cx D cA b ad s) (hY : Cy b s) (hSc : va_X sb L xs s s.heap) (hsb : sb < s.heap.size) (hsA : ¬ Ab b sb) (hi1 : inbd (i + 1) L = true) (hi2 : inbd (i + 2) L = true) (hi3 : inbd (i + 3) L = true) (hi4 : inbd (i + 4) L = true) (e1 : a1 = xs (txN (i + 1))) (e2 : a2 = xs (txN (i + 2))) (e3 : a3 = xs (txN (i + 3))) (e4 : a4 = xs (txN (i + 4))) (hX : hp D cA b ad Z H) (hS : va_S (Ab b) s.heap H locs) (hl : lv_has ls 7 [(0, .ref sb), (1, .ref (b + 0)), (2, .ref (b + 262)), (3, .ref (b + 293)), (4, .int i)]) (hcs : cells + 1 ≤ R.cells ∧ slots + 6 ≤ R.slots) (kk : ∀ (H : Heap) (locs : List Loc) (ls : Array Slot) (cn sn : Nat), cn ≤ cells + 1 → sn ≤ slots + 6 → hp D cA b ad Z2 H → va_S (Ab b) s.heap H locs → lv_has ls 7 [(0, .ref sb), (1, .ref (b + 0)), (2, .ref (b + 262)), (3, .ref (b + 293)), (4, .int i)] → W p l e R s m args below meth c H locs cn sn Q (F0 m 992 ls [])) (h : st_3 a1 a2 a3 a4 Z = some Z2) : W p l e R s m args below meth c H locs cells slots Q (F0 m 250 ls []) := by
  rw [st_3] at h
  have hc0 : cells ≤ R.cells ∧ slots ≤ R.slots := ⟨by omega, by omega⟩
  have hX : hp D cA b ad (Z.1, Z.2.1, Z.2.2) H := hX
  refine lv_aload_n hx hb d_w_law_250 rfl (lv_at hl 1 rfl) ?_
  refine lv_aload_n hx hb d_w_law_251 rfl (lv_at hl 0 rfl) ?_
  refine lv_iload hx hb d_w_law_252 (lv_at hl 4 rfl) ?_
  refine lv_iconst (v := 1) hx hb d_w_law_254 (by decide) ?_
  refine lv_iadd hx hb d_w_law_255 ?_
  refine va_sld hx hb hSc hsb hsA hS (inbd_in hi1) d_w_law_256 ?_
  refine lt_I e1 ?_
  obtain ⟨q257, hc257, h⟩ := Option.bind_eq_some_iff.mp h
  refine ck_VC (As := [.int a1]) (rest := []) (st1 := [.int q257]) (M_cG_count (T := (Z.2.1, Z.2.2)) hc257) t_370 t_371 t_372 t_373 t_1 hx hb hts hown hC hX hS (hrc_c0 hC hX (by rfl)) hml hl.1 ⟨by rw [hR]; decide, by rw [hR]; decide⟩ ⟨rfl, rfl⟩ (n := 1) (by decide +kernel) rfl rfl rfl (lv_room (Nat.le_of_ble_eq_true rfl)) d_w_law_257 hc0 (fun H locs hX hS => ?_)
  have hX : hp D cA b ad (Z.1, Z.2.1, Z.2.2) H := hX
  refine lv_aload_n hx hb d_w_law_260 rfl (lv_at hl 2 rfl) ?_
  refine lv_aload_n hx hb d_w_law_261 rfl (lv_at hl 0 rfl) ?_
  refine lv_iload hx hb d_w_law_262 (lv_at hl 4 rfl) ?_
  refine lv_iconst (v := 1) hx hb d_w_law_264 (by decide) ?_
  refine lv_iadd hx hb d_w_law_265 ?_
  refine va_sld hx hb hSc hsb hsA hS (inbd_in hi1) d_w_law_266 ?_
  refine lt_I e1 ?_
  obtain ⟨q267, hc267, h⟩ := Option.bind_eq_some_iff.mp h
  refine ck_VC (As := [.int a1]) (rest := [.int q257]) (st1 := [.int q267.2, .int q257]) (M_m_count (T := Z.1) (o := Z.2.2) hc267) t_1296 t_1297 t_1298 t_1299 t_13 hx hb hts hown hC hX hS (hrc_m0 hC hX (by rfl)) hml hl.1 ⟨by rw [hR]; decide, by rw [hR]; decide⟩ ⟨rfl, rfl⟩ (n := 1) (by decide +kernel) rfl rfl rfl (lv_room (Nat.le_of_ble_eq_true rfl)) d_w_law_267 hc0 (fun H locs hX hS => ?_)
  have hX : hp D cA b ad (Z.1, q267.1, Z.2.2) H := hX
  refine lv_icmp_eq hx hb d_w_law_270 (tgt := 992) (by decide) (fun hc => ?_) (fun hc => ?_)
  · rw [if_pos hc] at h
    obtain rfl := Option.some.inj h
    exact kk H locs ls _ _ (Nat.le_add_right _ _) (Nat.le_add_right _ _) hX hS (lv_sub hl [0, 1, 2, 3, 4] rfl)
  · rw [if_neg hc] at h
    cases h
def st_4 (a1 a2 a3 a4 : Int32) (Z : ST) : Option ST := (if a2 = 0 then ((w_flip a1 false (Z.1, Z.2.1, Z.2.2)).bind fun q297 => ((m_flip a1 false q297.1.2.1).bind fun q323 => ((m_thrown  q323.1).bind fun q329 => (if q329 = q297.2 then (if q297.2 = 0 then (if q323.2 = true then (if (q297.1.2.2 0) = 1 then some (q297.1.1, q323.1, q297.1.2.2) else none) else (if (q297.1.2.2 0) = 0 then some (q297.1.1, q323.1, q297.1.2.2) else none)) else some (q297.1.1, q323.1, q297.1.2.2)) else none)))) else ((w_flip a1 true (Z.1, Z.2.1, Z.2.2)).bind fun q297 => ((m_flip a1 true q297.1.2.1).bind fun q323 => ((m_thrown  q323.1).bind fun q329 => (if q329 = q297.2 then (if q297.2 = 0 then (if q323.2 = true then (if (q297.1.2.2 0) = 1 then some (q297.1.1, q323.1, q297.1.2.2) else none) else (if (q297.1.2.2 0) = 0 then some (q297.1.1, q323.1, q297.1.2.2) else none)) else some (q297.1.1, q323.1, q297.1.2.2)) else none)))))
set_option maxHeartbeats 4000000 in
set_option maxRecDepth 100000 in
theorem L_4 {p : Program} {l : Launch} {e : Env} {R : Room} {s : State} {m : MethodId} {args : Array Value} {below : List Frame} {meth : Method} {c : Code} {H : Heap} {locs : List Loc} {cells slots : Nat} {Q : State → Prop} {ls : Array Slot} {D : va_G} {cA : Nat → ClassId} {b : Nat} {ad : Nat → Nat} {sb L : Nat} {xs : Nat → Int32} {i a1 a2 a3 a4 : Int32} {Z Z2 : ST} (hT : ∀ e, l.admits e → e.platform.stackTraces = false) (hR : R = room_1) (hx : p.tables.exec = Jvm.exec) (hb : c.code = code) (hts : ∀ w ∈ TW, w.before args s = true) (hown : s.vm.findClass "TypeGuardLaw" = some m.cls) (hml : c.maxLocals = 7) (hC : Cx D cA b ad s) (hY : Cy b s) (hSc : va_X sb L xs s s.heap) (hsb : sb < s.heap.size) (hsA : ¬ Ab b sb) (hi1 : inbd (i + 1) L = true) (hi2 : inbd (i + 2) L = true) (hi3 : inbd (i + 3) L = true) (hi4 : inbd (i + 4) L = true) (e1 : a1 = xs (txN (i + 1))) (e2 : a2 = xs (txN (i + 2))) (e3 : a3 = xs (txN (i + 3))) (e4 : a4 = xs (txN (i + 4))) (hX : hp D cA b ad Z H) (hS : va_S (Ab b) s.heap H locs) (hl : lv_has ls 7 [(0, .ref sb), (1, .ref (b + 0)), (2, .ref (b + 262)), (3, .ref (b + 293)), (4, .int i)]) (hcs : cells + 1 ≤ R.cells ∧ slots + 6 ≤ R.slots) (kk : ∀ (H : Heap) (locs : List Loc) (ls : Array Slot) (cn sn : Nat), cn ≤ cells + 1 → sn ≤ slots + 6 → hp D cA b ad Z2 H → va_S (Ab b) s.heap H locs → lv_has ls 7 [(0, .ref sb), (1, .ref (b + 0)), (2, .ref (b + 262)), (3, .ref (b + 293)), (4, .int i)] → W p l e R s m args below meth c H locs cn sn Q (F0 m 992 ls [])) (h : st_4 a1 a2 a3 a4 Z = some Z2) : W p l e R s m args below meth c H locs cells slots Q (F0 m 275 ls []) := by
  rw [st_4] at h
  have hc0 : cells ≤ R.cells ∧ slots ≤ R.slots := ⟨by omega, by omega⟩
  have hX : hp D cA b ad (Z.1, Z.2.1, Z.2.2) H := hX
  refine lv_aload_n hx hb d_w_law_275 rfl (lv_at hl 1 rfl) ?_
  refine lv_aload_n hx hb d_w_law_276 rfl (lv_at hl 0 rfl) ?_
  refine lv_iload hx hb d_w_law_277 (lv_at hl 4 rfl) ?_
  refine lv_iconst (v := 1) hx hb d_w_law_279 (by decide) ?_
  refine lv_iadd hx hb d_w_law_280 ?_
  refine va_sld hx hb hSc hsb hsA hS (inbd_in hi1) d_w_law_281 ?_
  refine lt_I e1 ?_
  refine lv_aload_n hx hb d_w_law_282 rfl (lv_at hl 0 rfl) ?_
  refine lv_iload hx hb d_w_law_283 (lv_at hl 4 rfl) ?_
  refine lv_iconst (v := 2) hx hb d_w_law_285 (by decide) ?_
  refine lv_iadd hx hb d_w_law_286 ?_
  refine va_sld hx hb hSc hsb hsA hS (inbd_in hi2) d_w_law_287 ?_
  refine lt_I e2 ?_
  refine lv_if_eq hx hb d_w_law_288 (tgt := 295) (by decide) (fun hc288 => ?_) (fun hc288 => ?_)
  · rw [if_pos hc288] at h
    refine lv_iconst (v := 0) hx hb d_w_law_295 (by decide) ?_
    refine lv_aload_n hx hb d_w_law_296 rfl (lv_at hl 3 rfl) ?_
    obtain ⟨q297, hc297, h⟩ := Option.bind_eq_some_iff.mp h
    refine ck_SW (As := [.ref (b + 0), .int a1, .int (bI false), .ref (b + 293)]) (rest := []) (st1 := [.int q297.2]) (M_w_flip hT hc297) t_827 t_828 t_829 t_0 hx hb hts hown hC hY hX hS hml hl.1 ⟨by rw [hR]; decide, by rw [hR]; decide⟩ ⟨rfl, rfl⟩ (n := 4) (by decide +kernel) rfl rfl rfl (lv_room (Nat.le_of_ble_eq_true rfl)) d_w_law_297 hcs (fun H locs hX hS => ?_)
    have hX : hp D cA b ad (q297.1.1, q297.1.2.1, q297.1.2.2) H := hX
    refine lv_istore (lv' := [(5, .int q297.2), (0, .ref sb), (1, .ref (b + 0)), (2, .ref (b + 262)), (3, .ref (b + 293)), (4, .int i)]) hx hb d_w_law_300 hl (by decide) rfl (fun ls hl => ?_)
    refine lv_aload_n hx hb d_w_law_302 rfl (lv_at hl 3 rfl) ?_
    refine lv_aload_n hx hb d_w_law_303 rfl (lv_at hl 1 rfl) ?_
    refine lv_iload hx hb d_w_law_304 (lv_at hl 5 rfl) ?_
    refine lv_iconst (v := 1) hx hb d_w_law_306 (by decide) ?_
    refine lv_iadd hx hb d_w_law_307 ?_
    refine va_sld hx hb hSc hsb hsA hS (inbd_in hi1) d_w_law_308 ?_
    refine lt_I e1 ?_
    refine lv_aload_n hx hb d_w_law_309 rfl (lv_at hl 1 rfl) ?_
    refine lv_iload hx hb d_w_law_310 (lv_at hl 5 rfl) ?_
    refine lv_iconst (v := 2) hx hb d_w_law_312 (by decide) ?_
    refine lv_iadd hx hb d_w_law_313 ?_
    refine va_sld hx hb hSc hsb hsA hS (inbd_in hi2) d_w_law_314 ?_
    refine lt_I e2 ?_
    refine lv_if_eq hx hb d_w_law_315 (tgt := 322) (by decide) (fun hk => ?_) (fun hk => ?_)
    rotate_left
    · exact absurd hc288 hk
    refine lv_iconst (v := 0) hx hb d_w_law_322 (by decide) ?_
    obtain ⟨q323, hc323, h⟩ := Option.bind_eq_some_iff.mp h
    refine ck_VC (As := [.int a1, .int (bI false)]) (rest := []) (st1 := [.int (bI q323.2)]) (M_m_flip (T := q297.1.1) (o := q297.1.2.2) hc323) t_1300 t_1301 t_1302 t_1303 t_13 hx hb hts hown hC hX hS (hrc_m0 hC hX (by rfl)) hml hl.1 ⟨by rw [hR]; decide, by rw [hR]; decide⟩ ⟨rfl, rfl⟩ (n := 2) (by decide +kernel) rfl rfl rfl (lv_room (Nat.le_of_ble_eq_true rfl)) d_w_law_323 hcs (fun H locs hX hS => ?_)
    have hX : hp D cA b ad (q297.1.1, q323.1, q297.1.2.2) H := hX
    refine lv_istore (lv' := [(6, .int (bI q323.2)), (5, .int q297.2), (0, .ref sb), (1, .ref (b + 0)), (2, .ref (b + 262)), (3, .ref (b + 293)), (4, .int i)]) hx hb d_w_law_326 hl (by decide) rfl (fun ls hl => ?_)
    refine lv_aload_n hx hb d_w_law_328 rfl (lv_at hl 4 rfl) ?_
    obtain ⟨q329, hc329, h⟩ := Option.bind_eq_some_iff.mp h
    refine ck_VC (As := []) (rest := []) (st1 := [.int q329]) (M_m_thrown (T := q297.1.1) (o := q297.1.2.2) hc329) t_1132 t_1133 t_1134 t_1135 t_13 hx hb hts hown hC hX hS (hrc_m0 hC hX (by rfl)) hml hl.1 ⟨by rw [hR]; decide, by rw [hR]; decide⟩ ⟨rfl, rfl⟩ (n := 0) (by decide +kernel) rfl rfl rfl (lv_room (Nat.le_of_ble_eq_true rfl)) d_w_law_329 hcs (fun H locs hX hS => ?_)
    have hX : hp D cA b ad (q297.1.1, q323.1, q297.1.2.2) H := hX
    refine lv_iload hx hb d_w_law_332 (lv_at hl 1 rfl) ?_
    refine lv_icmp_eq hx hb d_w_law_334 (tgt := 339) (by decide) (fun hc => ?_) (fun hc => ?_)
    · rw [if_pos hc] at h
      refine lv_iload hx hb d_w_law_339 (lv_at hl 1 rfl) ?_
      refine lv_if_ne hx hb d_w_law_341 (tgt := 363) (by decide) (fun hc341 => ?_) (fun hc341 => ?_)
      · rw [if_neg hc341] at h
        refine lv_goto hx hb d_w_law_363 (tgt := 992) (by decide) ?_
        obtain rfl := Option.some.inj h
        exact kk H locs ls _ _ (Nat.le_refl _) (Nat.le_refl _) hX hS (lv_sub hl [2, 3, 4, 5, 6] rfl)
      · rw [if_pos hc341] at h
        refine lv_aload_n hx hb d_w_law_344 rfl (lv_at hl 5 rfl) ?_
        refine lv_iconst (v := 0) hx hb d_w_law_345 (by decide) ?_
        refine o_ald hx hb hC hX d_w_law_346 ?_
        refine lv_iload hx hb d_w_law_347 (lv_at hl 0 rfl) ?_
        refine lz_ifeq hx hb d_w_law_349 (tgt := 356) (by decide) (fun hc => ?_) (fun hc => ?_)
        · rw [if_neg hc] at h
          refine lv_lconst (v := 0) hx hb d_w_law_356 (by decide) ?_
          refine lx_ifeq hx hb d_w_law_357 d_w_law_358 (tgt := 363) (by decide) (fun hc => ?_) (fun hc => ?_)
          · rw [if_pos hc] at h
            refine lv_goto hx hb d_w_law_363 (tgt := 992) (by decide) ?_
            obtain rfl := Option.some.inj h
            exact kk H locs ls _ _ (Nat.le_refl _) (Nat.le_refl _) hX hS (lv_sub hl [2, 3, 4, 5, 6] rfl)
          · rw [if_neg hc] at h
            cases h
        · rw [if_pos hc] at h
          refine lv_lconst (v := 1) hx hb d_w_law_352 (by decide) ?_
          refine lv_goto hx hb d_w_law_353 (tgt := 357) (by decide) ?_
          refine lx_ifeq hx hb d_w_law_357 d_w_law_358 (tgt := 363) (by decide) (fun hc => ?_) (fun hc => ?_)
          · rw [if_pos hc] at h
            refine lv_goto hx hb d_w_law_363 (tgt := 992) (by decide) ?_
            obtain rfl := Option.some.inj h
            exact kk H locs ls _ _ (Nat.le_refl _) (Nat.le_refl _) hX hS (lv_sub hl [2, 3, 4, 5, 6] rfl)
          · rw [if_neg hc] at h
            cases h
    · rw [if_neg hc] at h
      cases h
  · rw [if_neg hc288] at h
    refine lv_iconst (v := 1) hx hb d_w_law_291 (by decide) ?_
    refine lv_goto hx hb d_w_law_292 (tgt := 296) (by decide) ?_
    refine lv_aload_n hx hb d_w_law_296 rfl (lv_at hl 3 rfl) ?_
    obtain ⟨q297, hc297, h⟩ := Option.bind_eq_some_iff.mp h
    refine ck_SW (As := [.ref (b + 0), .int a1, .int (bI true), .ref (b + 293)]) (rest := []) (st1 := [.int q297.2]) (M_w_flip hT hc297) t_827 t_828 t_829 t_0 hx hb hts hown hC hY hX hS hml hl.1 ⟨by rw [hR]; decide, by rw [hR]; decide⟩ ⟨rfl, rfl⟩ (n := 4) (by decide +kernel) rfl rfl rfl (lv_room (Nat.le_of_ble_eq_true rfl)) d_w_law_297 hcs (fun H locs hX hS => ?_)
    have hX : hp D cA b ad (q297.1.1, q297.1.2.1, q297.1.2.2) H := hX
    refine lv_istore (lv' := [(5, .int q297.2), (0, .ref sb), (1, .ref (b + 0)), (2, .ref (b + 262)), (3, .ref (b + 293)), (4, .int i)]) hx hb d_w_law_300 hl (by decide) rfl (fun ls hl => ?_)
    refine lv_aload_n hx hb d_w_law_302 rfl (lv_at hl 3 rfl) ?_
    refine lv_aload_n hx hb d_w_law_303 rfl (lv_at hl 1 rfl) ?_
    refine lv_iload hx hb d_w_law_304 (lv_at hl 5 rfl) ?_
    refine lv_iconst (v := 1) hx hb d_w_law_306 (by decide) ?_
    refine lv_iadd hx hb d_w_law_307 ?_
    refine va_sld hx hb hSc hsb hsA hS (inbd_in hi1) d_w_law_308 ?_
    refine lt_I e1 ?_
    refine lv_aload_n hx hb d_w_law_309 rfl (lv_at hl 1 rfl) ?_
    refine lv_iload hx hb d_w_law_310 (lv_at hl 5 rfl) ?_
    refine lv_iconst (v := 2) hx hb d_w_law_312 (by decide) ?_
    refine lv_iadd hx hb d_w_law_313 ?_
    refine va_sld hx hb hSc hsb hsA hS (inbd_in hi2) d_w_law_314 ?_
    refine lt_I e2 ?_
    refine lv_if_eq hx hb d_w_law_315 (tgt := 322) (by decide) (fun hk => ?_) (fun hk => ?_)
    · exact absurd hk hc288
    refine lv_iconst (v := 1) hx hb d_w_law_318 (by decide) ?_
    refine lv_goto hx hb d_w_law_319 (tgt := 323) (by decide) ?_
    obtain ⟨q323, hc323, h⟩ := Option.bind_eq_some_iff.mp h
    refine ck_VC (As := [.int a1, .int (bI true)]) (rest := []) (st1 := [.int (bI q323.2)]) (M_m_flip (T := q297.1.1) (o := q297.1.2.2) hc323) t_1300 t_1301 t_1302 t_1303 t_13 hx hb hts hown hC hX hS (hrc_m0 hC hX (by rfl)) hml hl.1 ⟨by rw [hR]; decide, by rw [hR]; decide⟩ ⟨rfl, rfl⟩ (n := 2) (by decide +kernel) rfl rfl rfl (lv_room (Nat.le_of_ble_eq_true rfl)) d_w_law_323 hcs (fun H locs hX hS => ?_)
    have hX : hp D cA b ad (q297.1.1, q323.1, q297.1.2.2) H := hX
    refine lv_istore (lv' := [(6, .int (bI q323.2)), (5, .int q297.2), (0, .ref sb), (1, .ref (b + 0)), (2, .ref (b + 262)), (3, .ref (b + 293)), (4, .int i)]) hx hb d_w_law_326 hl (by decide) rfl (fun ls hl => ?_)
    refine lv_aload_n hx hb d_w_law_328 rfl (lv_at hl 4 rfl) ?_
    obtain ⟨q329, hc329, h⟩ := Option.bind_eq_some_iff.mp h
    refine ck_VC (As := []) (rest := []) (st1 := [.int q329]) (M_m_thrown (T := q297.1.1) (o := q297.1.2.2) hc329) t_1132 t_1133 t_1134 t_1135 t_13 hx hb hts hown hC hX hS (hrc_m0 hC hX (by rfl)) hml hl.1 ⟨by rw [hR]; decide, by rw [hR]; decide⟩ ⟨rfl, rfl⟩ (n := 0) (by decide +kernel) rfl rfl rfl (lv_room (Nat.le_of_ble_eq_true rfl)) d_w_law_329 hcs (fun H locs hX hS => ?_)
    have hX : hp D cA b ad (q297.1.1, q323.1, q297.1.2.2) H := hX
    refine lv_iload hx hb d_w_law_332 (lv_at hl 1 rfl) ?_
    refine lv_icmp_eq hx hb d_w_law_334 (tgt := 339) (by decide) (fun hc => ?_) (fun hc => ?_)
    · rw [if_pos hc] at h
      refine lv_iload hx hb d_w_law_339 (lv_at hl 1 rfl) ?_
      refine lv_if_ne hx hb d_w_law_341 (tgt := 363) (by decide) (fun hc341 => ?_) (fun hc341 => ?_)
      · rw [if_neg hc341] at h
        refine lv_goto hx hb d_w_law_363 (tgt := 992) (by decide) ?_
        obtain rfl := Option.some.inj h
        exact kk H locs ls _ _ (Nat.le_refl _) (Nat.le_refl _) hX hS (lv_sub hl [2, 3, 4, 5, 6] rfl)
      · rw [if_pos hc341] at h
        refine lv_aload_n hx hb d_w_law_344 rfl (lv_at hl 5 rfl) ?_
        refine lv_iconst (v := 0) hx hb d_w_law_345 (by decide) ?_
        refine o_ald hx hb hC hX d_w_law_346 ?_
        refine lv_iload hx hb d_w_law_347 (lv_at hl 0 rfl) ?_
        refine lz_ifeq hx hb d_w_law_349 (tgt := 356) (by decide) (fun hc => ?_) (fun hc => ?_)
        · rw [if_neg hc] at h
          refine lv_lconst (v := 0) hx hb d_w_law_356 (by decide) ?_
          refine lx_ifeq hx hb d_w_law_357 d_w_law_358 (tgt := 363) (by decide) (fun hc => ?_) (fun hc => ?_)
          · rw [if_pos hc] at h
            refine lv_goto hx hb d_w_law_363 (tgt := 992) (by decide) ?_
            obtain rfl := Option.some.inj h
            exact kk H locs ls _ _ (Nat.le_refl _) (Nat.le_refl _) hX hS (lv_sub hl [2, 3, 4, 5, 6] rfl)
          · rw [if_neg hc] at h
            cases h
        · rw [if_pos hc] at h
          refine lv_lconst (v := 1) hx hb d_w_law_352 (by decide) ?_
          refine lv_goto hx hb d_w_law_353 (tgt := 357) (by decide) ?_
          refine lx_ifeq hx hb d_w_law_357 d_w_law_358 (tgt := 363) (by decide) (fun hc => ?_) (fun hc => ?_)
          · rw [if_pos hc] at h
            refine lv_goto hx hb d_w_law_363 (tgt := 992) (by decide) ?_
            obtain rfl := Option.some.inj h
            exact kk H locs ls _ _ (Nat.le_refl _) (Nat.le_refl _) hX hS (lv_sub hl [2, 3, 4, 5, 6] rfl)
          · rw [if_neg hc] at h
            cases h
    · rw [if_neg hc] at h
      cases h
def st_5 (a1 a2 a3 a4 : Int32) (Z : ST) : Option ST := ((w_vector a1 a2 a3 a4 (Z.1, Z.2.1, Z.2.2)).bind fun q392 => ((m_vector a1 a2 a3 a4 q392.1.2.1).bind fun q422 => ((m_thrown  q422.1).bind fun q428 => (if q428 = q392.2 then (if q392.2 = 0 then (if (q392.1.2.2 0) = q422.2.toInt64 then some (q392.1.1, q422.1, q392.1.2.2) else none) else some (q392.1.1, q422.1, q392.1.2.2)) else none))))
set_option maxHeartbeats 4000000 in
set_option maxRecDepth 100000 in
theorem L_5 {p : Program} {l : Launch} {e : Env} {R : Room} {s : State} {m : MethodId} {args : Array Value} {below : List Frame} {meth : Method} {c : Code} {H : Heap} {locs : List Loc} {cells slots : Nat} {Q : State → Prop} {ls : Array Slot} {D : va_G} {cA : Nat → ClassId} {b : Nat} {ad : Nat → Nat} {sb L : Nat} {xs : Nat → Int32} {i a1 a2 a3 a4 : Int32} {Z Z2 : ST} (hT : ∀ e, l.admits e → e.platform.stackTraces = false) (hR : R = room_1) (hx : p.tables.exec = Jvm.exec) (hb : c.code = code) (hts : ∀ w ∈ TW, w.before args s = true) (hown : s.vm.findClass "TypeGuardLaw" = some m.cls) (hml : c.maxLocals = 7) (hC : Cx D cA b ad s) (hY : Cy b s) (hSc : va_X sb L xs s s.heap) (hsb : sb < s.heap.size) (hsA : ¬ Ab b sb) (hi1 : inbd (i + 1) L = true) (hi2 : inbd (i + 2) L = true) (hi3 : inbd (i + 3) L = true) (hi4 : inbd (i + 4) L = true) (e1 : a1 = xs (txN (i + 1))) (e2 : a2 = xs (txN (i + 2))) (e3 : a3 = xs (txN (i + 3))) (e4 : a4 = xs (txN (i + 4))) (hX : hp D cA b ad Z H) (hS : va_S (Ab b) s.heap H locs) (hl : lv_has ls 7 [(0, .ref sb), (1, .ref (b + 0)), (2, .ref (b + 262)), (3, .ref (b + 293)), (4, .int i)]) (hcs : cells + 1 ≤ R.cells ∧ slots + 6 ≤ R.slots) (kk : ∀ (H : Heap) (locs : List Loc) (ls : Array Slot) (cn sn : Nat), cn ≤ cells + 1 → sn ≤ slots + 6 → hp D cA b ad Z2 H → va_S (Ab b) s.heap H locs → lv_has ls 7 [(0, .ref sb), (1, .ref (b + 0)), (2, .ref (b + 262)), (3, .ref (b + 293)), (4, .int i)] → W p l e R s m args below meth c H locs cn sn Q (F0 m 992 ls [])) (h : st_5 a1 a2 a3 a4 Z = some Z2) : W p l e R s m args below meth c H locs cells slots Q (F0 m 366 ls []) := by
  rw [st_5] at h
  have hc0 : cells ≤ R.cells ∧ slots ≤ R.slots := ⟨by omega, by omega⟩
  have hX : hp D cA b ad (Z.1, Z.2.1, Z.2.2) H := hX
  refine lv_aload_n hx hb d_w_law_366 rfl (lv_at hl 1 rfl) ?_
  refine lv_aload_n hx hb d_w_law_367 rfl (lv_at hl 0 rfl) ?_
  refine lv_iload hx hb d_w_law_368 (lv_at hl 4 rfl) ?_
  refine lv_iconst (v := 1) hx hb d_w_law_370 (by decide) ?_
  refine lv_iadd hx hb d_w_law_371 ?_
  refine va_sld hx hb hSc hsb hsA hS (inbd_in hi1) d_w_law_372 ?_
  refine lt_I e1 ?_
  refine lv_aload_n hx hb d_w_law_373 rfl (lv_at hl 0 rfl) ?_
  refine lv_iload hx hb d_w_law_374 (lv_at hl 4 rfl) ?_
  refine lv_iconst (v := 2) hx hb d_w_law_376 (by decide) ?_
  refine lv_iadd hx hb d_w_law_377 ?_
  refine va_sld hx hb hSc hsb hsA hS (inbd_in hi2) d_w_law_378 ?_
  refine lt_I e2 ?_
  refine lv_aload_n hx hb d_w_law_379 rfl (lv_at hl 0 rfl) ?_
  refine lv_iload hx hb d_w_law_380 (lv_at hl 4 rfl) ?_
  refine lv_iconst (v := 3) hx hb d_w_law_382 (by decide) ?_
  refine lv_iadd hx hb d_w_law_383 ?_
  refine va_sld hx hb hSc hsb hsA hS (inbd_in hi3) d_w_law_384 ?_
  refine lt_I e3 ?_
  refine lv_aload_n hx hb d_w_law_385 rfl (lv_at hl 0 rfl) ?_
  refine lv_iload hx hb d_w_law_386 (lv_at hl 4 rfl) ?_
  refine lv_iconst (v := 4) hx hb d_w_law_388 (by decide) ?_
  refine lv_iadd hx hb d_w_law_389 ?_
  refine va_sld hx hb hSc hsb hsA hS (inbd_in hi4) d_w_law_390 ?_
  refine lt_I e4 ?_
  refine lv_aload_n hx hb d_w_law_391 rfl (lv_at hl 3 rfl) ?_
  obtain ⟨q392, hc392, h⟩ := Option.bind_eq_some_iff.mp h
  refine ck_SW (As := [.ref (b + 0), .int a1, .int a2, .int a3, .int a4, .ref (b + 293)]) (rest := []) (st1 := [.int q392.2]) (M_w_vector hT hc392) t_854 t_855 t_856 t_0 hx hb hts hown hC hY hX hS hml hl.1 ⟨by rw [hR]; decide, by rw [hR]; decide⟩ ⟨rfl, rfl⟩ (n := 6) (by decide +kernel) rfl rfl rfl (lv_room (Nat.le_of_ble_eq_true rfl)) d_w_law_392 hcs (fun H locs hX hS => ?_)
  have hX : hp D cA b ad (q392.1.1, q392.1.2.1, q392.1.2.2) H := hX
  refine lv_istore (lv' := [(5, .int q392.2), (0, .ref sb), (1, .ref (b + 0)), (2, .ref (b + 262)), (3, .ref (b + 293)), (4, .int i)]) hx hb d_w_law_395 hl (by decide) rfl (fun ls hl => ?_)
  refine lv_aload_n hx hb d_w_law_397 rfl (lv_at hl 3 rfl) ?_
  refine lv_aload_n hx hb d_w_law_398 rfl (lv_at hl 1 rfl) ?_
  refine lv_iload hx hb d_w_law_399 (lv_at hl 5 rfl) ?_
  refine lv_iconst (v := 1) hx hb d_w_law_401 (by decide) ?_
  refine lv_iadd hx hb d_w_law_402 ?_
  refine va_sld hx hb hSc hsb hsA hS (inbd_in hi1) d_w_law_403 ?_
  refine lt_I e1 ?_
  refine lv_aload_n hx hb d_w_law_404 rfl (lv_at hl 1 rfl) ?_
  refine lv_iload hx hb d_w_law_405 (lv_at hl 5 rfl) ?_
  refine lv_iconst (v := 2) hx hb d_w_law_407 (by decide) ?_
  refine lv_iadd hx hb d_w_law_408 ?_
  refine va_sld hx hb hSc hsb hsA hS (inbd_in hi2) d_w_law_409 ?_
  refine lt_I e2 ?_
  refine lv_aload_n hx hb d_w_law_410 rfl (lv_at hl 1 rfl) ?_
  refine lv_iload hx hb d_w_law_411 (lv_at hl 5 rfl) ?_
  refine lv_iconst (v := 3) hx hb d_w_law_413 (by decide) ?_
  refine lv_iadd hx hb d_w_law_414 ?_
  refine va_sld hx hb hSc hsb hsA hS (inbd_in hi3) d_w_law_415 ?_
  refine lt_I e3 ?_
  refine lv_aload_n hx hb d_w_law_416 rfl (lv_at hl 1 rfl) ?_
  refine lv_iload hx hb d_w_law_417 (lv_at hl 5 rfl) ?_
  refine lv_iconst (v := 4) hx hb d_w_law_419 (by decide) ?_
  refine lv_iadd hx hb d_w_law_420 ?_
  refine va_sld hx hb hSc hsb hsA hS (inbd_in hi4) d_w_law_421 ?_
  refine lt_I e4 ?_
  obtain ⟨q422, hc422, h⟩ := Option.bind_eq_some_iff.mp h
  refine ck_VC (As := [.int a1, .int a2, .int a3, .int a4]) (rest := []) (st1 := [.int q422.2]) (M_m_vector (T := q392.1.1) (o := q392.1.2.2) hc422) t_1304 t_1305 t_1306 t_1307 t_13 hx hb hts hown hC hX hS (hrc_m0 hC hX (by rfl)) hml hl.1 ⟨by rw [hR]; decide, by rw [hR]; decide⟩ ⟨rfl, rfl⟩ (n := 4) (by decide +kernel) rfl rfl rfl (lv_room (Nat.le_of_ble_eq_true rfl)) d_w_law_422 hcs (fun H locs hX hS => ?_)
  have hX : hp D cA b ad (q392.1.1, q422.1, q392.1.2.2) H := hX
  refine lv_istore (lv' := [(6, .int q422.2), (5, .int q392.2), (0, .ref sb), (1, .ref (b + 0)), (2, .ref (b + 262)), (3, .ref (b + 293)), (4, .int i)]) hx hb d_w_law_425 hl (by decide) rfl (fun ls hl => ?_)
  refine lv_aload_n hx hb d_w_law_427 rfl (lv_at hl 4 rfl) ?_
  obtain ⟨q428, hc428, h⟩ := Option.bind_eq_some_iff.mp h
  refine ck_VC (As := []) (rest := []) (st1 := [.int q428]) (M_m_thrown (T := q392.1.1) (o := q392.1.2.2) hc428) t_1132 t_1133 t_1134 t_1135 t_13 hx hb hts hown hC hX hS (hrc_m0 hC hX (by rfl)) hml hl.1 ⟨by rw [hR]; decide, by rw [hR]; decide⟩ ⟨rfl, rfl⟩ (n := 0) (by decide +kernel) rfl rfl rfl (lv_room (Nat.le_of_ble_eq_true rfl)) d_w_law_428 hcs (fun H locs hX hS => ?_)
  have hX : hp D cA b ad (q392.1.1, q422.1, q392.1.2.2) H := hX
  refine lv_iload hx hb d_w_law_431 (lv_at hl 1 rfl) ?_
  refine lv_icmp_eq hx hb d_w_law_433 (tgt := 438) (by decide) (fun hc => ?_) (fun hc => ?_)
  · rw [if_pos hc] at h
    refine lv_iload hx hb d_w_law_438 (lv_at hl 1 rfl) ?_
    refine lv_if_ne hx hb d_w_law_440 (tgt := 455) (by decide) (fun hc440 => ?_) (fun hc440 => ?_)
    · rw [if_neg hc440] at h
      refine lv_goto hx hb d_w_law_455 (tgt := 992) (by decide) ?_
      obtain rfl := Option.some.inj h
      exact kk H locs ls _ _ (Nat.le_refl _) (Nat.le_refl _) hX hS (lv_sub hl [2, 3, 4, 5, 6] rfl)
    · rw [if_pos hc440] at h
      refine lv_aload_n hx hb d_w_law_443 rfl (lv_at hl 5 rfl) ?_
      refine lv_iconst (v := 0) hx hb d_w_law_444 (by decide) ?_
      refine o_ald hx hb hC hX d_w_law_445 ?_
      refine lv_iload hx hb d_w_law_446 (lv_at hl 0 rfl) ?_
      refine lv_i2l (v := q422.2.toInt64) hx hb d_w_law_448 rfl ?_
      refine lx_ifeq hx hb d_w_law_449 d_w_law_450 (tgt := 455) (by decide) (fun hc => ?_) (fun hc => ?_)
      · rw [if_pos hc] at h
        refine lv_goto hx hb d_w_law_455 (tgt := 992) (by decide) ?_
        obtain rfl := Option.some.inj h
        exact kk H locs ls _ _ (Nat.le_refl _) (Nat.le_refl _) hX hS (lv_sub hl [2, 3, 4, 5, 6] rfl)
      · rw [if_neg hc] at h
        cases h
  · rw [if_neg hc] at h
    cases h
def st_6 (a1 a2 a3 a4 : Int32) (Z : ST) : Option ST := ((w_why a1 a2 a3 a4 (Z.1, Z.2.1, Z.2.2)).bind fun q484 => ((m_why a1 a2 a3 a4 q484.1.2.1).bind fun q514 => ((m_thrown  q514.1).bind fun q520 => (if q520 = q484.2 then (if q484.2 = 0 then (if (q484.1.2.2 0) = q514.2.toInt64 then some (q484.1.1, q514.1, q484.1.2.2) else none) else some (q484.1.1, q514.1, q484.1.2.2)) else none))))
set_option maxHeartbeats 4000000 in
set_option maxRecDepth 100000 in
theorem L_6 {p : Program} {l : Launch} {e : Env} {R : Room} {s : State} {m : MethodId} {args : Array Value} {below : List Frame} {meth : Method} {c : Code} {H : Heap} {locs : List Loc} {cells slots : Nat} {Q : State → Prop} {ls : Array Slot} {D : va_G} {cA : Nat → ClassId} {b : Nat} {ad : Nat → Nat} {sb L : Nat} {xs : Nat → Int32} {i a1 a2 a3 a4 : Int32} {Z Z2 : ST} (hT : ∀ e, l.admits e → e.platform.stackTraces = false) (hR : R = room_1) (hx : p.tables.exec = Jvm.exec) (hb : c.code = code) (hts : ∀ w ∈ TW, w.before args s = true) (hown : s.vm.findClass "TypeGuardLaw" = some m.cls) (hml : c.maxLocals = 7) (hC : Cx D cA b ad s) (hY : Cy b s) (hSc : va_X sb L xs s s.heap) (hsb : sb < s.heap.size) (hsA : ¬ Ab b sb) (hi1 : inbd (i + 1) L = true) (hi2 : inbd (i + 2) L = true) (hi3 : inbd (i + 3) L = true) (hi4 : inbd (i + 4) L = true) (e1 : a1 = xs (txN (i + 1))) (e2 : a2 = xs (txN (i + 2))) (e3 : a3 = xs (txN (i + 3))) (e4 : a4 = xs (txN (i + 4))) (hX : hp D cA b ad Z H) (hS : va_S (Ab b) s.heap H locs) (hl : lv_has ls 7 [(0, .ref sb), (1, .ref (b + 0)), (2, .ref (b + 262)), (3, .ref (b + 293)), (4, .int i)]) (hcs : cells + 1 ≤ R.cells ∧ slots + 6 ≤ R.slots) (kk : ∀ (H : Heap) (locs : List Loc) (ls : Array Slot) (cn sn : Nat), cn ≤ cells + 1 → sn ≤ slots + 6 → hp D cA b ad Z2 H → va_S (Ab b) s.heap H locs → lv_has ls 7 [(0, .ref sb), (1, .ref (b + 0)), (2, .ref (b + 262)), (3, .ref (b + 293)), (4, .int i)] → W p l e R s m args below meth c H locs cn sn Q (F0 m 992 ls [])) (h : st_6 a1 a2 a3 a4 Z = some Z2) : W p l e R s m args below meth c H locs cells slots Q (F0 m 458 ls []) := by
  rw [st_6] at h
  have hc0 : cells ≤ R.cells ∧ slots ≤ R.slots := ⟨by omega, by omega⟩
  have hX : hp D cA b ad (Z.1, Z.2.1, Z.2.2) H := hX
  refine lv_aload_n hx hb d_w_law_458 rfl (lv_at hl 1 rfl) ?_
  refine lv_aload_n hx hb d_w_law_459 rfl (lv_at hl 0 rfl) ?_
  refine lv_iload hx hb d_w_law_460 (lv_at hl 4 rfl) ?_
  refine lv_iconst (v := 1) hx hb d_w_law_462 (by decide) ?_
  refine lv_iadd hx hb d_w_law_463 ?_
  refine va_sld hx hb hSc hsb hsA hS (inbd_in hi1) d_w_law_464 ?_
  refine lt_I e1 ?_
  refine lv_aload_n hx hb d_w_law_465 rfl (lv_at hl 0 rfl) ?_
  refine lv_iload hx hb d_w_law_466 (lv_at hl 4 rfl) ?_
  refine lv_iconst (v := 2) hx hb d_w_law_468 (by decide) ?_
  refine lv_iadd hx hb d_w_law_469 ?_
  refine va_sld hx hb hSc hsb hsA hS (inbd_in hi2) d_w_law_470 ?_
  refine lt_I e2 ?_
  refine lv_aload_n hx hb d_w_law_471 rfl (lv_at hl 0 rfl) ?_
  refine lv_iload hx hb d_w_law_472 (lv_at hl 4 rfl) ?_
  refine lv_iconst (v := 3) hx hb d_w_law_474 (by decide) ?_
  refine lv_iadd hx hb d_w_law_475 ?_
  refine va_sld hx hb hSc hsb hsA hS (inbd_in hi3) d_w_law_476 ?_
  refine lt_I e3 ?_
  refine lv_aload_n hx hb d_w_law_477 rfl (lv_at hl 0 rfl) ?_
  refine lv_iload hx hb d_w_law_478 (lv_at hl 4 rfl) ?_
  refine lv_iconst (v := 4) hx hb d_w_law_480 (by decide) ?_
  refine lv_iadd hx hb d_w_law_481 ?_
  refine va_sld hx hb hSc hsb hsA hS (inbd_in hi4) d_w_law_482 ?_
  refine lt_I e4 ?_
  refine lv_aload_n hx hb d_w_law_483 rfl (lv_at hl 3 rfl) ?_
  obtain ⟨q484, hc484, h⟩ := Option.bind_eq_some_iff.mp h
  refine ck_SW (As := [.ref (b + 0), .int a1, .int a2, .int a3, .int a4, .ref (b + 293)]) (rest := []) (st1 := [.int q484.2]) (M_w_why hT hc484) t_881 t_882 t_883 t_0 hx hb hts hown hC hY hX hS hml hl.1 ⟨by rw [hR]; decide, by rw [hR]; decide⟩ ⟨rfl, rfl⟩ (n := 6) (by decide +kernel) rfl rfl rfl (lv_room (Nat.le_of_ble_eq_true rfl)) d_w_law_484 hcs (fun H locs hX hS => ?_)
  have hX : hp D cA b ad (q484.1.1, q484.1.2.1, q484.1.2.2) H := hX
  refine lv_istore (lv' := [(5, .int q484.2), (0, .ref sb), (1, .ref (b + 0)), (2, .ref (b + 262)), (3, .ref (b + 293)), (4, .int i)]) hx hb d_w_law_487 hl (by decide) rfl (fun ls hl => ?_)
  refine lv_aload_n hx hb d_w_law_489 rfl (lv_at hl 3 rfl) ?_
  refine lv_aload_n hx hb d_w_law_490 rfl (lv_at hl 1 rfl) ?_
  refine lv_iload hx hb d_w_law_491 (lv_at hl 5 rfl) ?_
  refine lv_iconst (v := 1) hx hb d_w_law_493 (by decide) ?_
  refine lv_iadd hx hb d_w_law_494 ?_
  refine va_sld hx hb hSc hsb hsA hS (inbd_in hi1) d_w_law_495 ?_
  refine lt_I e1 ?_
  refine lv_aload_n hx hb d_w_law_496 rfl (lv_at hl 1 rfl) ?_
  refine lv_iload hx hb d_w_law_497 (lv_at hl 5 rfl) ?_
  refine lv_iconst (v := 2) hx hb d_w_law_499 (by decide) ?_
  refine lv_iadd hx hb d_w_law_500 ?_
  refine va_sld hx hb hSc hsb hsA hS (inbd_in hi2) d_w_law_501 ?_
  refine lt_I e2 ?_
  refine lv_aload_n hx hb d_w_law_502 rfl (lv_at hl 1 rfl) ?_
  refine lv_iload hx hb d_w_law_503 (lv_at hl 5 rfl) ?_
  refine lv_iconst (v := 3) hx hb d_w_law_505 (by decide) ?_
  refine lv_iadd hx hb d_w_law_506 ?_
  refine va_sld hx hb hSc hsb hsA hS (inbd_in hi3) d_w_law_507 ?_
  refine lt_I e3 ?_
  refine lv_aload_n hx hb d_w_law_508 rfl (lv_at hl 1 rfl) ?_
  refine lv_iload hx hb d_w_law_509 (lv_at hl 5 rfl) ?_
  refine lv_iconst (v := 4) hx hb d_w_law_511 (by decide) ?_
  refine lv_iadd hx hb d_w_law_512 ?_
  refine va_sld hx hb hSc hsb hsA hS (inbd_in hi4) d_w_law_513 ?_
  refine lt_I e4 ?_
  obtain ⟨q514, hc514, h⟩ := Option.bind_eq_some_iff.mp h
  refine ck_VC (As := [.int a1, .int a2, .int a3, .int a4]) (rest := []) (st1 := [.int q514.2]) (M_m_why (T := q484.1.1) (o := q484.1.2.2) hc514) t_1324 t_1325 t_1326 t_1327 t_13 hx hb hts hown hC hX hS (hrc_m0 hC hX (by rfl)) hml hl.1 ⟨by rw [hR]; decide, by rw [hR]; decide⟩ ⟨rfl, rfl⟩ (n := 4) (by decide +kernel) rfl rfl rfl (lv_room (Nat.le_of_ble_eq_true rfl)) d_w_law_514 hcs (fun H locs hX hS => ?_)
  have hX : hp D cA b ad (q484.1.1, q514.1, q484.1.2.2) H := hX
  refine lv_istore (lv' := [(6, .int q514.2), (5, .int q484.2), (0, .ref sb), (1, .ref (b + 0)), (2, .ref (b + 262)), (3, .ref (b + 293)), (4, .int i)]) hx hb d_w_law_517 hl (by decide) rfl (fun ls hl => ?_)
  refine lv_aload_n hx hb d_w_law_519 rfl (lv_at hl 4 rfl) ?_
  obtain ⟨q520, hc520, h⟩ := Option.bind_eq_some_iff.mp h
  refine ck_VC (As := []) (rest := []) (st1 := [.int q520]) (M_m_thrown (T := q484.1.1) (o := q484.1.2.2) hc520) t_1132 t_1133 t_1134 t_1135 t_13 hx hb hts hown hC hX hS (hrc_m0 hC hX (by rfl)) hml hl.1 ⟨by rw [hR]; decide, by rw [hR]; decide⟩ ⟨rfl, rfl⟩ (n := 0) (by decide +kernel) rfl rfl rfl (lv_room (Nat.le_of_ble_eq_true rfl)) d_w_law_520 hcs (fun H locs hX hS => ?_)
  have hX : hp D cA b ad (q484.1.1, q514.1, q484.1.2.2) H := hX
  refine lv_iload hx hb d_w_law_523 (lv_at hl 1 rfl) ?_
  refine lv_icmp_eq hx hb d_w_law_525 (tgt := 530) (by decide) (fun hc => ?_) (fun hc => ?_)
  · rw [if_pos hc] at h
    refine lv_iload hx hb d_w_law_530 (lv_at hl 1 rfl) ?_
    refine lv_if_ne hx hb d_w_law_532 (tgt := 547) (by decide) (fun hc532 => ?_) (fun hc532 => ?_)
    · rw [if_neg hc532] at h
      refine lv_goto hx hb d_w_law_547 (tgt := 992) (by decide) ?_
      obtain rfl := Option.some.inj h
      exact kk H locs ls _ _ (Nat.le_refl _) (Nat.le_refl _) hX hS (lv_sub hl [2, 3, 4, 5, 6] rfl)
    · rw [if_pos hc532] at h
      refine lv_aload_n hx hb d_w_law_535 rfl (lv_at hl 5 rfl) ?_
      refine lv_iconst (v := 0) hx hb d_w_law_536 (by decide) ?_
      refine o_ald hx hb hC hX d_w_law_537 ?_
      refine lv_iload hx hb d_w_law_538 (lv_at hl 0 rfl) ?_
      refine lv_i2l (v := q514.2.toInt64) hx hb d_w_law_540 rfl ?_
      refine lx_ifeq hx hb d_w_law_541 d_w_law_542 (tgt := 547) (by decide) (fun hc => ?_) (fun hc => ?_)
      · rw [if_pos hc] at h
        refine lv_goto hx hb d_w_law_547 (tgt := 992) (by decide) ?_
        obtain rfl := Option.some.inj h
        exact kk H locs ls _ _ (Nat.le_refl _) (Nat.le_refl _) hX hS (lv_sub hl [2, 3, 4, 5, 6] rfl)
      · rw [if_neg hc] at h
        cases h
  · rw [if_neg hc] at h
    cases h
def st_7 (a1 a2 a3 a4 : Int32) (Z : ST) : Option ST := ((w_enter a1 a2 (Z.1, Z.2.1, Z.2.2)).bind fun q563 => ((m_enter a1 a2 q563.1.2.1).bind fun q581 => ((m_thrown  q581).bind fun q585 => (if q585 = q563.2 then some (q563.1.1, q581, q563.1.2.2) else none))))
set_option maxHeartbeats 4000000 in
set_option maxRecDepth 100000 in
theorem L_7 {p : Program} {l : Launch} {e : Env} {R : Room} {s : State} {m : MethodId} {args : Array Value} {below : List Frame} {meth : Method} {c : Code} {H : Heap} {locs : List Loc} {cells slots : Nat} {Q : State → Prop} {ls : Array Slot} {D : va_G} {cA : Nat → ClassId} {b : Nat} {ad : Nat → Nat} {sb L : Nat} {xs : Nat → Int32} {i a1 a2 a3 a4 : Int32} {Z Z2 : ST} (hT : ∀ e, l.admits e → e.platform.stackTraces = false) (hR : R = room_1) (hx : p.tables.exec = Jvm.exec) (hb : c.code = code) (hts : ∀ w ∈ TW, w.before args s = true) (hown : s.vm.findClass "TypeGuardLaw" = some m.cls) (hml : c.maxLocals = 7) (hC : Cx D cA b ad s) (hY : Cy b s) (hSc : va_X sb L xs s s.heap) (hsb : sb < s.heap.size) (hsA : ¬ Ab b sb) (hi1 : inbd (i + 1) L = true) (hi2 : inbd (i + 2) L = true) (hi3 : inbd (i + 3) L = true) (hi4 : inbd (i + 4) L = true) (e1 : a1 = xs (txN (i + 1))) (e2 : a2 = xs (txN (i + 2))) (e3 : a3 = xs (txN (i + 3))) (e4 : a4 = xs (txN (i + 4))) (hX : hp D cA b ad Z H) (hS : va_S (Ab b) s.heap H locs) (hl : lv_has ls 7 [(0, .ref sb), (1, .ref (b + 0)), (2, .ref (b + 262)), (3, .ref (b + 293)), (4, .int i)]) (hcs : cells + 1 ≤ R.cells ∧ slots + 6 ≤ R.slots) (kk : ∀ (H : Heap) (locs : List Loc) (ls : Array Slot) (cn sn : Nat), cn ≤ cells + 1 → sn ≤ slots + 6 → hp D cA b ad Z2 H → va_S (Ab b) s.heap H locs → lv_has ls 7 [(0, .ref sb), (1, .ref (b + 0)), (2, .ref (b + 262)), (3, .ref (b + 293)), (4, .int i)] → W p l e R s m args below meth c H locs cn sn Q (F0 m 992 ls [])) (h : st_7 a1 a2 a3 a4 Z = some Z2) : W p l e R s m args below meth c H locs cells slots Q (F0 m 550 ls []) := by
  rw [st_7] at h
  have hc0 : cells ≤ R.cells ∧ slots ≤ R.slots := ⟨by omega, by omega⟩
  have hX : hp D cA b ad (Z.1, Z.2.1, Z.2.2) H := hX
  refine lv_aload_n hx hb d_w_law_550 rfl (lv_at hl 1 rfl) ?_
  refine lv_aload_n hx hb d_w_law_551 rfl (lv_at hl 0 rfl) ?_
  refine lv_iload hx hb d_w_law_552 (lv_at hl 4 rfl) ?_
  refine lv_iconst (v := 1) hx hb d_w_law_554 (by decide) ?_
  refine lv_iadd hx hb d_w_law_555 ?_
  refine va_sld hx hb hSc hsb hsA hS (inbd_in hi1) d_w_law_556 ?_
  refine lt_I e1 ?_
  refine lv_aload_n hx hb d_w_law_557 rfl (lv_at hl 0 rfl) ?_
  refine lv_iload hx hb d_w_law_558 (lv_at hl 4 rfl) ?_
  refine lv_iconst (v := 2) hx hb d_w_law_560 (by decide) ?_
  refine lv_iadd hx hb d_w_law_561 ?_
  refine va_sld hx hb hSc hsb hsA hS (inbd_in hi2) d_w_law_562 ?_
  refine lt_I e2 ?_
  obtain ⟨q563, hc563, h⟩ := Option.bind_eq_some_iff.mp h
  refine ck_SW (As := [.ref (b + 0), .int a1, .int a2]) (rest := []) (st1 := [.int q563.2]) (M_w_enter hT hc563) t_892 t_893 t_894 t_0 hx hb hts hown hC hY hX hS hml hl.1 ⟨by rw [hR]; decide, by rw [hR]; decide⟩ ⟨rfl, rfl⟩ (n := 3) (by decide +kernel) rfl rfl rfl (lv_room (Nat.le_of_ble_eq_true rfl)) d_w_law_563 hcs (fun H locs hX hS => ?_)
  have hX : hp D cA b ad (q563.1.1, q563.1.2.1, q563.1.2.2) H := hX
  refine lv_istore (lv' := [(5, .int q563.2), (0, .ref sb), (1, .ref (b + 0)), (2, .ref (b + 262)), (3, .ref (b + 293)), (4, .int i)]) hx hb d_w_law_566 hl (by decide) rfl (fun ls hl => ?_)
  refine lv_aload_n hx hb d_w_law_568 rfl (lv_at hl 3 rfl) ?_
  refine lv_aload_n hx hb d_w_law_569 rfl (lv_at hl 1 rfl) ?_
  refine lv_iload hx hb d_w_law_570 (lv_at hl 5 rfl) ?_
  refine lv_iconst (v := 1) hx hb d_w_law_572 (by decide) ?_
  refine lv_iadd hx hb d_w_law_573 ?_
  refine va_sld hx hb hSc hsb hsA hS (inbd_in hi1) d_w_law_574 ?_
  refine lt_I e1 ?_
  refine lv_aload_n hx hb d_w_law_575 rfl (lv_at hl 1 rfl) ?_
  refine lv_iload hx hb d_w_law_576 (lv_at hl 5 rfl) ?_
  refine lv_iconst (v := 2) hx hb d_w_law_578 (by decide) ?_
  refine lv_iadd hx hb d_w_law_579 ?_
  refine va_sld hx hb hSc hsb hsA hS (inbd_in hi2) d_w_law_580 ?_
  refine lt_I e2 ?_
  obtain ⟨q581, hc581, h⟩ := Option.bind_eq_some_iff.mp h
  refine ck_VC (As := [.int a1, .int a2]) (rest := []) (st1 := []) (M_m_enter (T := q563.1.1) (o := q563.1.2.2) hc581) t_1328 t_1329 t_1330 t_1331 t_13 hx hb hts hown hC hX hS (hrc_m0 hC hX (by rfl)) hml hl.1 ⟨by rw [hR]; decide, by rw [hR]; decide⟩ ⟨rfl, rfl⟩ (n := 2) (by decide +kernel) rfl rfl rfl (lv_room (Nat.le_of_ble_eq_true rfl)) d_w_law_581 hcs (fun H locs hX hS => ?_)
  have hX : hp D cA b ad (q563.1.1, q581, q563.1.2.2) H := hX
  refine lv_aload_n hx hb d_w_law_584 rfl (lv_at hl 3 rfl) ?_
  obtain ⟨q585, hc585, h⟩ := Option.bind_eq_some_iff.mp h
  refine ck_VC (As := []) (rest := []) (st1 := [.int q585]) (M_m_thrown (T := q563.1.1) (o := q563.1.2.2) hc585) t_1132 t_1133 t_1134 t_1135 t_13 hx hb hts hown hC hX hS (hrc_m0 hC hX (by rfl)) hml hl.1 ⟨by rw [hR]; decide, by rw [hR]; decide⟩ ⟨rfl, rfl⟩ (n := 0) (by decide +kernel) rfl rfl rfl (lv_room (Nat.le_of_ble_eq_true rfl)) d_w_law_585 hcs (fun H locs hX hS => ?_)
  have hX : hp D cA b ad (q563.1.1, q581, q563.1.2.2) H := hX
  refine lv_iload hx hb d_w_law_588 (lv_at hl 0 rfl) ?_
  refine lv_icmp_eq hx hb d_w_law_590 (tgt := 595) (by decide) (fun hc => ?_) (fun hc => ?_)
  · rw [if_pos hc] at h
    refine lv_goto hx hb d_w_law_595 (tgt := 992) (by decide) ?_
    obtain rfl := Option.some.inj h
    exact kk H locs ls _ _ (Nat.le_refl _) (Nat.le_refl _) hX hS (lv_sub hl [1, 2, 3, 4, 5] rfl)
  · rw [if_neg hc] at h
    cases h
def st_8 (a1 a2 a3 a4 : Int32) (Z : ST) : Option ST := ((w_put a1 a2 a3 (Z.1, Z.2.1, Z.2.2)).bind fun q617 => ((m_put a1 a2 a3 q617.1.2.1).bind fun q641 => ((m_thrown  q641).bind fun q645 => (if q645 = q617.2 then some (q617.1.1, q641, q617.1.2.2) else none))))
set_option maxHeartbeats 4000000 in
set_option maxRecDepth 100000 in
theorem L_8 {p : Program} {l : Launch} {e : Env} {R : Room} {s : State} {m : MethodId} {args : Array Value} {below : List Frame} {meth : Method} {c : Code} {H : Heap} {locs : List Loc} {cells slots : Nat} {Q : State → Prop} {ls : Array Slot} {D : va_G} {cA : Nat → ClassId} {b : Nat} {ad : Nat → Nat} {sb L : Nat} {xs : Nat → Int32} {i a1 a2 a3 a4 : Int32} {Z Z2 : ST} (hT : ∀ e, l.admits e → e.platform.stackTraces = false) (hR : R = room_1) (hx : p.tables.exec = Jvm.exec) (hb : c.code = code) (hts : ∀ w ∈ TW, w.before args s = true) (hown : s.vm.findClass "TypeGuardLaw" = some m.cls) (hml : c.maxLocals = 7) (hC : Cx D cA b ad s) (hY : Cy b s) (hSc : va_X sb L xs s s.heap) (hsb : sb < s.heap.size) (hsA : ¬ Ab b sb) (hi1 : inbd (i + 1) L = true) (hi2 : inbd (i + 2) L = true) (hi3 : inbd (i + 3) L = true) (hi4 : inbd (i + 4) L = true) (e1 : a1 = xs (txN (i + 1))) (e2 : a2 = xs (txN (i + 2))) (e3 : a3 = xs (txN (i + 3))) (e4 : a4 = xs (txN (i + 4))) (hX : hp D cA b ad Z H) (hS : va_S (Ab b) s.heap H locs) (hl : lv_has ls 7 [(0, .ref sb), (1, .ref (b + 0)), (2, .ref (b + 262)), (3, .ref (b + 293)), (4, .int i)]) (hcs : cells + 1 ≤ R.cells ∧ slots + 6 ≤ R.slots) (kk : ∀ (H : Heap) (locs : List Loc) (ls : Array Slot) (cn sn : Nat), cn ≤ cells + 1 → sn ≤ slots + 6 → hp D cA b ad Z2 H → va_S (Ab b) s.heap H locs → lv_has ls 7 [(0, .ref sb), (1, .ref (b + 0)), (2, .ref (b + 262)), (3, .ref (b + 293)), (4, .int i)] → W p l e R s m args below meth c H locs cn sn Q (F0 m 992 ls [])) (h : st_8 a1 a2 a3 a4 Z = some Z2) : W p l e R s m args below meth c H locs cells slots Q (F0 m 598 ls []) := by
  rw [st_8] at h
  have hc0 : cells ≤ R.cells ∧ slots ≤ R.slots := ⟨by omega, by omega⟩
  have hX : hp D cA b ad (Z.1, Z.2.1, Z.2.2) H := hX
  refine lv_aload_n hx hb d_w_law_598 rfl (lv_at hl 1 rfl) ?_
  refine lv_aload_n hx hb d_w_law_599 rfl (lv_at hl 0 rfl) ?_
  refine lv_iload hx hb d_w_law_600 (lv_at hl 4 rfl) ?_
  refine lv_iconst (v := 1) hx hb d_w_law_602 (by decide) ?_
  refine lv_iadd hx hb d_w_law_603 ?_
  refine va_sld hx hb hSc hsb hsA hS (inbd_in hi1) d_w_law_604 ?_
  refine lt_I e1 ?_
  refine lv_aload_n hx hb d_w_law_605 rfl (lv_at hl 0 rfl) ?_
  refine lv_iload hx hb d_w_law_606 (lv_at hl 4 rfl) ?_
  refine lv_iconst (v := 2) hx hb d_w_law_608 (by decide) ?_
  refine lv_iadd hx hb d_w_law_609 ?_
  refine va_sld hx hb hSc hsb hsA hS (inbd_in hi2) d_w_law_610 ?_
  refine lt_I e2 ?_
  refine lv_aload_n hx hb d_w_law_611 rfl (lv_at hl 0 rfl) ?_
  refine lv_iload hx hb d_w_law_612 (lv_at hl 4 rfl) ?_
  refine lv_iconst (v := 3) hx hb d_w_law_614 (by decide) ?_
  refine lv_iadd hx hb d_w_law_615 ?_
  refine va_sld hx hb hSc hsb hsA hS (inbd_in hi3) d_w_law_616 ?_
  refine lt_I e3 ?_
  obtain ⟨q617, hc617, h⟩ := Option.bind_eq_some_iff.mp h
  refine ck_SW (As := [.ref (b + 0), .int a1, .int a2, .int a3]) (rest := []) (st1 := [.int q617.2]) (M_w_put hT hc617) t_904 t_905 t_906 t_0 hx hb hts hown hC hY hX hS hml hl.1 ⟨by rw [hR]; decide, by rw [hR]; decide⟩ ⟨rfl, rfl⟩ (n := 4) (by decide +kernel) rfl rfl rfl (lv_room (Nat.le_of_ble_eq_true rfl)) d_w_law_617 hcs (fun H locs hX hS => ?_)
  have hX : hp D cA b ad (q617.1.1, q617.1.2.1, q617.1.2.2) H := hX
  refine lv_istore (lv' := [(5, .int q617.2), (0, .ref sb), (1, .ref (b + 0)), (2, .ref (b + 262)), (3, .ref (b + 293)), (4, .int i)]) hx hb d_w_law_620 hl (by decide) rfl (fun ls hl => ?_)
  refine lv_aload_n hx hb d_w_law_622 rfl (lv_at hl 3 rfl) ?_
  refine lv_aload_n hx hb d_w_law_623 rfl (lv_at hl 1 rfl) ?_
  refine lv_iload hx hb d_w_law_624 (lv_at hl 5 rfl) ?_
  refine lv_iconst (v := 1) hx hb d_w_law_626 (by decide) ?_
  refine lv_iadd hx hb d_w_law_627 ?_
  refine va_sld hx hb hSc hsb hsA hS (inbd_in hi1) d_w_law_628 ?_
  refine lt_I e1 ?_
  refine lv_aload_n hx hb d_w_law_629 rfl (lv_at hl 1 rfl) ?_
  refine lv_iload hx hb d_w_law_630 (lv_at hl 5 rfl) ?_
  refine lv_iconst (v := 2) hx hb d_w_law_632 (by decide) ?_
  refine lv_iadd hx hb d_w_law_633 ?_
  refine va_sld hx hb hSc hsb hsA hS (inbd_in hi2) d_w_law_634 ?_
  refine lt_I e2 ?_
  refine lv_aload_n hx hb d_w_law_635 rfl (lv_at hl 1 rfl) ?_
  refine lv_iload hx hb d_w_law_636 (lv_at hl 5 rfl) ?_
  refine lv_iconst (v := 3) hx hb d_w_law_638 (by decide) ?_
  refine lv_iadd hx hb d_w_law_639 ?_
  refine va_sld hx hb hSc hsb hsA hS (inbd_in hi3) d_w_law_640 ?_
  refine lt_I e3 ?_
  obtain ⟨q641, hc641, h⟩ := Option.bind_eq_some_iff.mp h
  refine ck_VC (As := [.int a1, .int a2, .int a3]) (rest := []) (st1 := []) (M_m_put (T := q617.1.1) (o := q617.1.2.2) hc641) t_1335 t_1336 t_1337 t_1338 t_13 hx hb hts hown hC hX hS (hrc_m0 hC hX (by rfl)) hml hl.1 ⟨by rw [hR]; decide, by rw [hR]; decide⟩ ⟨rfl, rfl⟩ (n := 3) (by decide +kernel) rfl rfl rfl (lv_room (Nat.le_of_ble_eq_true rfl)) d_w_law_641 hcs (fun H locs hX hS => ?_)
  have hX : hp D cA b ad (q617.1.1, q641, q617.1.2.2) H := hX
  refine lv_aload_n hx hb d_w_law_644 rfl (lv_at hl 3 rfl) ?_
  obtain ⟨q645, hc645, h⟩ := Option.bind_eq_some_iff.mp h
  refine ck_VC (As := []) (rest := []) (st1 := [.int q645]) (M_m_thrown (T := q617.1.1) (o := q617.1.2.2) hc645) t_1132 t_1133 t_1134 t_1135 t_13 hx hb hts hown hC hX hS (hrc_m0 hC hX (by rfl)) hml hl.1 ⟨by rw [hR]; decide, by rw [hR]; decide⟩ ⟨rfl, rfl⟩ (n := 0) (by decide +kernel) rfl rfl rfl (lv_room (Nat.le_of_ble_eq_true rfl)) d_w_law_645 hcs (fun H locs hX hS => ?_)
  have hX : hp D cA b ad (q617.1.1, q641, q617.1.2.2) H := hX
  refine lv_iload hx hb d_w_law_648 (lv_at hl 0 rfl) ?_
  refine lv_icmp_eq hx hb d_w_law_650 (tgt := 655) (by decide) (fun hc => ?_) (fun hc => ?_)
  · rw [if_pos hc] at h
    refine lv_goto hx hb d_w_law_655 (tgt := 992) (by decide) ?_
    obtain rfl := Option.some.inj h
    exact kk H locs ls _ _ (Nat.le_refl _) (Nat.le_refl _) hX hS (lv_sub hl [1, 2, 3, 4, 5] rfl)
  · rw [if_neg hc] at h
    cases h
def st_9 (a1 a2 a3 a4 : Int32) (Z : ST) : Option ST := ((cG_label a1 a2 Z.1).bind fun q671 => ((m_label a1 a2 Z.2.1).bind fun q687 => (if q671 = q687.2 then some (Z.1, q687.1, Z.2.2) else none)))
set_option maxHeartbeats 4000000 in
set_option maxRecDepth 100000 in
theorem L_9 {p : Program} {l : Launch} {e : Env} {R : Room} {s : State} {m : MethodId} {args : Array Value} {below : List Frame} {meth : Method} {c : Code} {H : Heap} {locs : List Loc} {cells slots : Nat} {Q : State → Prop} {ls : Array Slot} {D : va_G} {cA : Nat → ClassId} {b : Nat} {ad : Nat → Nat} {sb L : Nat} {xs : Nat → Int32} {i a1 a2 a3 a4 : Int32} {Z Z2 : ST} (hT : ∀ e, l.admits e → e.platform.stackTraces = false) (hR : R = room_1) (hx : p.tables.exec = Jvm.exec) (hb : c.code = code) (hts : ∀ w ∈ TW, w.before args s = true) (hown : s.vm.findClass "TypeGuardLaw" = some m.cls) (hml : c.maxLocals = 7) (hC : Cx D cA b ad s) (hY : Cy b s) (hSc : va_X sb L xs s s.heap) (hsb : sb < s.heap.size) (hsA : ¬ Ab b sb) (hi1 : inbd (i + 1) L = true) (hi2 : inbd (i + 2) L = true) (hi3 : inbd (i + 3) L = true) (hi4 : inbd (i + 4) L = true) (e1 : a1 = xs (txN (i + 1))) (e2 : a2 = xs (txN (i + 2))) (e3 : a3 = xs (txN (i + 3))) (e4 : a4 = xs (txN (i + 4))) (hX : hp D cA b ad Z H) (hS : va_S (Ab b) s.heap H locs) (hl : lv_has ls 7 [(0, .ref sb), (1, .ref (b + 0)), (2, .ref (b + 262)), (3, .ref (b + 293)), (4, .int i)]) (hcs : cells + 1 ≤ R.cells ∧ slots + 6 ≤ R.slots) (kk : ∀ (H : Heap) (locs : List Loc) (ls : Array Slot) (cn sn : Nat), cn ≤ cells + 1 → sn ≤ slots + 6 → hp D cA b ad Z2 H → va_S (Ab b) s.heap H locs → lv_has ls 7 [(0, .ref sb), (1, .ref (b + 0)), (2, .ref (b + 262)), (3, .ref (b + 293)), (4, .int i)] → W p l e R s m args below meth c H locs cn sn Q (F0 m 992 ls [])) (h : st_9 a1 a2 a3 a4 Z = some Z2) : W p l e R s m args below meth c H locs cells slots Q (F0 m 658 ls []) := by
  rw [st_9] at h
  have hc0 : cells ≤ R.cells ∧ slots ≤ R.slots := ⟨by omega, by omega⟩
  have hX : hp D cA b ad (Z.1, Z.2.1, Z.2.2) H := hX
  refine lv_aload_n hx hb d_w_law_658 rfl (lv_at hl 1 rfl) ?_
  refine lv_aload_n hx hb d_w_law_659 rfl (lv_at hl 0 rfl) ?_
  refine lv_iload hx hb d_w_law_660 (lv_at hl 4 rfl) ?_
  refine lv_iconst (v := 1) hx hb d_w_law_662 (by decide) ?_
  refine lv_iadd hx hb d_w_law_663 ?_
  refine va_sld hx hb hSc hsb hsA hS (inbd_in hi1) d_w_law_664 ?_
  refine lt_I e1 ?_
  refine lv_aload_n hx hb d_w_law_665 rfl (lv_at hl 0 rfl) ?_
  refine lv_iload hx hb d_w_law_666 (lv_at hl 4 rfl) ?_
  refine lv_iconst (v := 2) hx hb d_w_law_668 (by decide) ?_
  refine lv_iadd hx hb d_w_law_669 ?_
  refine va_sld hx hb hSc hsb hsA hS (inbd_in hi2) d_w_law_670 ?_
  refine lt_I e2 ?_
  obtain ⟨q671, hc671, h⟩ := Option.bind_eq_some_iff.mp h
  refine ck_VC (As := [.int a1, .int a2]) (rest := []) (st1 := [.int q671]) (M_cG_label (T := (Z.2.1, Z.2.2)) hc671) t_374 t_375 t_376 t_377 t_1 hx hb hts hown hC hX hS (hrc_c0 hC hX (by rfl)) hml hl.1 ⟨by rw [hR]; decide, by rw [hR]; decide⟩ ⟨rfl, rfl⟩ (n := 2) (by decide +kernel) rfl rfl rfl (lv_room (Nat.le_of_ble_eq_true rfl)) d_w_law_671 hc0 (fun H locs hX hS => ?_)
  have hX : hp D cA b ad (Z.1, Z.2.1, Z.2.2) H := hX
  refine lv_aload_n hx hb d_w_law_674 rfl (lv_at hl 2 rfl) ?_
  refine lv_aload_n hx hb d_w_law_675 rfl (lv_at hl 0 rfl) ?_
  refine lv_iload hx hb d_w_law_676 (lv_at hl 4 rfl) ?_
  refine lv_iconst (v := 1) hx hb d_w_law_678 (by decide) ?_
  refine lv_iadd hx hb d_w_law_679 ?_
  refine va_sld hx hb hSc hsb hsA hS (inbd_in hi1) d_w_law_680 ?_
  refine lt_I e1 ?_
  refine lv_aload_n hx hb d_w_law_681 rfl (lv_at hl 0 rfl) ?_
  refine lv_iload hx hb d_w_law_682 (lv_at hl 4 rfl) ?_
  refine lv_iconst (v := 2) hx hb d_w_law_684 (by decide) ?_
  refine lv_iadd hx hb d_w_law_685 ?_
  refine va_sld hx hb hSc hsb hsA hS (inbd_in hi2) d_w_law_686 ?_
  refine lt_I e2 ?_
  obtain ⟨q687, hc687, h⟩ := Option.bind_eq_some_iff.mp h
  refine ck_VC (As := [.int a1, .int a2]) (rest := [.int q671]) (st1 := [.int q687.2, .int q671]) (M_m_label (T := Z.1) (o := Z.2.2) hc687) t_1342 t_1343 t_1344 t_1345 t_13 hx hb hts hown hC hX hS (hrc_m0 hC hX (by rfl)) hml hl.1 ⟨by rw [hR]; decide, by rw [hR]; decide⟩ ⟨rfl, rfl⟩ (n := 2) (by decide +kernel) rfl rfl rfl (lv_room (Nat.le_of_ble_eq_true rfl)) d_w_law_687 hc0 (fun H locs hX hS => ?_)
  have hX : hp D cA b ad (Z.1, q687.1, Z.2.2) H := hX
  refine lv_icmp_eq hx hb d_w_law_690 (tgt := 992) (by decide) (fun hc => ?_) (fun hc => ?_)
  · rw [if_pos hc] at h
    obtain rfl := Option.some.inj h
    exact kk H locs ls _ _ (Nat.le_add_right _ _) (Nat.le_add_right _ _) hX hS (lv_sub hl [0, 1, 2, 3, 4] rfl)
  · rw [if_neg hc] at h
    cases h
def st_10 (a1 a2 a3 a4 : Int32) (Z : ST) : Option ST := ((w_ask a1 a2 a3 (Z.1, Z.2.1, Z.2.2)).bind fun q715 => ((m_ask a1 a2 a3 q715.1.2.1).bind fun q739 => ((m_thrown  q739.1).bind fun q745 => (if q745 = q715.2 then (if q715.2 = 0 then (if q739.2 = true then (if (q715.1.2.2 0) = 1 then some (q715.1.1, q739.1, q715.1.2.2) else none) else (if (q715.1.2.2 0) = 0 then some (q715.1.1, q739.1, q715.1.2.2) else none)) else some (q715.1.1, q739.1, q715.1.2.2)) else none))))
set_option maxHeartbeats 4000000 in
set_option maxRecDepth 100000 in
theorem L_10 {p : Program} {l : Launch} {e : Env} {R : Room} {s : State} {m : MethodId} {args : Array Value} {below : List Frame} {meth : Method} {c : Code} {H : Heap} {locs : List Loc} {cells slots : Nat} {Q : State → Prop} {ls : Array Slot} {D : va_G} {cA : Nat → ClassId} {b : Nat} {ad : Nat → Nat} {sb L : Nat} {xs : Nat → Int32} {i a1 a2 a3 a4 : Int32} {Z Z2 : ST} (hT : ∀ e, l.admits e → e.platform.stackTraces = false) (hR : R = room_1) (hx : p.tables.exec = Jvm.exec) (hb : c.code = code) (hts : ∀ w ∈ TW, w.before args s = true) (hown : s.vm.findClass "TypeGuardLaw" = some m.cls) (hml : c.maxLocals = 7) (hC : Cx D cA b ad s) (hY : Cy b s) (hSc : va_X sb L xs s s.heap) (hsb : sb < s.heap.size) (hsA : ¬ Ab b sb) (hi1 : inbd (i + 1) L = true) (hi2 : inbd (i + 2) L = true) (hi3 : inbd (i + 3) L = true) (hi4 : inbd (i + 4) L = true) (e1 : a1 = xs (txN (i + 1))) (e2 : a2 = xs (txN (i + 2))) (e3 : a3 = xs (txN (i + 3))) (e4 : a4 = xs (txN (i + 4))) (hX : hp D cA b ad Z H) (hS : va_S (Ab b) s.heap H locs) (hl : lv_has ls 7 [(0, .ref sb), (1, .ref (b + 0)), (2, .ref (b + 262)), (3, .ref (b + 293)), (4, .int i)]) (hcs : cells + 1 ≤ R.cells ∧ slots + 6 ≤ R.slots) (kk : ∀ (H : Heap) (locs : List Loc) (ls : Array Slot) (cn sn : Nat), cn ≤ cells + 1 → sn ≤ slots + 6 → hp D cA b ad Z2 H → va_S (Ab b) s.heap H locs → lv_has ls 7 [(0, .ref sb), (1, .ref (b + 0)), (2, .ref (b + 262)), (3, .ref (b + 293)), (4, .int i)] → W p l e R s m args below meth c H locs cn sn Q (F0 m 992 ls [])) (h : st_10 a1 a2 a3 a4 Z = some Z2) : W p l e R s m args below meth c H locs cells slots Q (F0 m 695 ls []) := by
  rw [st_10] at h
  have hc0 : cells ≤ R.cells ∧ slots ≤ R.slots := ⟨by omega, by omega⟩
  have hX : hp D cA b ad (Z.1, Z.2.1, Z.2.2) H := hX
  refine lv_aload_n hx hb d_w_law_695 rfl (lv_at hl 1 rfl) ?_
  refine lv_aload_n hx hb d_w_law_696 rfl (lv_at hl 0 rfl) ?_
  refine lv_iload hx hb d_w_law_697 (lv_at hl 4 rfl) ?_
  refine lv_iconst (v := 1) hx hb d_w_law_699 (by decide) ?_
  refine lv_iadd hx hb d_w_law_700 ?_
  refine va_sld hx hb hSc hsb hsA hS (inbd_in hi1) d_w_law_701 ?_
  refine lt_I e1 ?_
  refine lv_aload_n hx hb d_w_law_702 rfl (lv_at hl 0 rfl) ?_
  refine lv_iload hx hb d_w_law_703 (lv_at hl 4 rfl) ?_
  refine lv_iconst (v := 2) hx hb d_w_law_705 (by decide) ?_
  refine lv_iadd hx hb d_w_law_706 ?_
  refine va_sld hx hb hSc hsb hsA hS (inbd_in hi2) d_w_law_707 ?_
  refine lt_I e2 ?_
  refine lv_aload_n hx hb d_w_law_708 rfl (lv_at hl 0 rfl) ?_
  refine lv_iload hx hb d_w_law_709 (lv_at hl 4 rfl) ?_
  refine lv_iconst (v := 3) hx hb d_w_law_711 (by decide) ?_
  refine lv_iadd hx hb d_w_law_712 ?_
  refine va_sld hx hb hSc hsb hsA hS (inbd_in hi3) d_w_law_713 ?_
  refine lt_I e3 ?_
  refine lv_aload_n hx hb d_w_law_714 rfl (lv_at hl 3 rfl) ?_
  obtain ⟨q715, hc715, h⟩ := Option.bind_eq_some_iff.mp h
  refine ck_SW (As := [.ref (b + 0), .int a1, .int a2, .int a3, .ref (b + 293)]) (rest := []) (st1 := [.int q715.2]) (M_w_ask hT hc715) t_911 t_912 t_913 t_0 hx hb hts hown hC hY hX hS hml hl.1 ⟨by rw [hR]; decide, by rw [hR]; decide⟩ ⟨rfl, rfl⟩ (n := 5) (by decide +kernel) rfl rfl rfl (lv_room (Nat.le_of_ble_eq_true rfl)) d_w_law_715 hcs (fun H locs hX hS => ?_)
  have hX : hp D cA b ad (q715.1.1, q715.1.2.1, q715.1.2.2) H := hX
  refine lv_istore (lv' := [(5, .int q715.2), (0, .ref sb), (1, .ref (b + 0)), (2, .ref (b + 262)), (3, .ref (b + 293)), (4, .int i)]) hx hb d_w_law_718 hl (by decide) rfl (fun ls hl => ?_)
  refine lv_aload_n hx hb d_w_law_720 rfl (lv_at hl 3 rfl) ?_
  refine lv_aload_n hx hb d_w_law_721 rfl (lv_at hl 1 rfl) ?_
  refine lv_iload hx hb d_w_law_722 (lv_at hl 5 rfl) ?_
  refine lv_iconst (v := 1) hx hb d_w_law_724 (by decide) ?_
  refine lv_iadd hx hb d_w_law_725 ?_
  refine va_sld hx hb hSc hsb hsA hS (inbd_in hi1) d_w_law_726 ?_
  refine lt_I e1 ?_
  refine lv_aload_n hx hb d_w_law_727 rfl (lv_at hl 1 rfl) ?_
  refine lv_iload hx hb d_w_law_728 (lv_at hl 5 rfl) ?_
  refine lv_iconst (v := 2) hx hb d_w_law_730 (by decide) ?_
  refine lv_iadd hx hb d_w_law_731 ?_
  refine va_sld hx hb hSc hsb hsA hS (inbd_in hi2) d_w_law_732 ?_
  refine lt_I e2 ?_
  refine lv_aload_n hx hb d_w_law_733 rfl (lv_at hl 1 rfl) ?_
  refine lv_iload hx hb d_w_law_734 (lv_at hl 5 rfl) ?_
  refine lv_iconst (v := 3) hx hb d_w_law_736 (by decide) ?_
  refine lv_iadd hx hb d_w_law_737 ?_
  refine va_sld hx hb hSc hsb hsA hS (inbd_in hi3) d_w_law_738 ?_
  refine lt_I e3 ?_
  obtain ⟨q739, hc739, h⟩ := Option.bind_eq_some_iff.mp h
  refine ck_VC (As := [.int a1, .int a2, .int a3]) (rest := []) (st1 := [.int (bI q739.2)]) (M_m_ask (T := q715.1.1) (o := q715.1.2.2) hc739) t_1358 t_1359 t_1360 t_1361 t_13 hx hb hts hown hC hX hS (hrc_m0 hC hX (by rfl)) hml hl.1 ⟨by rw [hR]; decide, by rw [hR]; decide⟩ ⟨rfl, rfl⟩ (n := 3) (by decide +kernel) rfl rfl rfl (lv_room (Nat.le_of_ble_eq_true rfl)) d_w_law_739 hcs (fun H locs hX hS => ?_)
  have hX : hp D cA b ad (q715.1.1, q739.1, q715.1.2.2) H := hX
  refine lv_istore (lv' := [(6, .int (bI q739.2)), (5, .int q715.2), (0, .ref sb), (1, .ref (b + 0)), (2, .ref (b + 262)), (3, .ref (b + 293)), (4, .int i)]) hx hb d_w_law_742 hl (by decide) rfl (fun ls hl => ?_)
  refine lv_aload_n hx hb d_w_law_744 rfl (lv_at hl 4 rfl) ?_
  obtain ⟨q745, hc745, h⟩ := Option.bind_eq_some_iff.mp h
  refine ck_VC (As := []) (rest := []) (st1 := [.int q745]) (M_m_thrown (T := q715.1.1) (o := q715.1.2.2) hc745) t_1132 t_1133 t_1134 t_1135 t_13 hx hb hts hown hC hX hS (hrc_m0 hC hX (by rfl)) hml hl.1 ⟨by rw [hR]; decide, by rw [hR]; decide⟩ ⟨rfl, rfl⟩ (n := 0) (by decide +kernel) rfl rfl rfl (lv_room (Nat.le_of_ble_eq_true rfl)) d_w_law_745 hcs (fun H locs hX hS => ?_)
  have hX : hp D cA b ad (q715.1.1, q739.1, q715.1.2.2) H := hX
  refine lv_iload hx hb d_w_law_748 (lv_at hl 1 rfl) ?_
  refine lv_icmp_eq hx hb d_w_law_750 (tgt := 755) (by decide) (fun hc => ?_) (fun hc => ?_)
  · rw [if_pos hc] at h
    refine lv_iload hx hb d_w_law_755 (lv_at hl 1 rfl) ?_
    refine lv_if_ne hx hb d_w_law_757 (tgt := 779) (by decide) (fun hc757 => ?_) (fun hc757 => ?_)
    · rw [if_neg hc757] at h
      refine lv_goto hx hb d_w_law_779 (tgt := 992) (by decide) ?_
      obtain rfl := Option.some.inj h
      exact kk H locs ls _ _ (Nat.le_refl _) (Nat.le_refl _) hX hS (lv_sub hl [2, 3, 4, 5, 6] rfl)
    · rw [if_pos hc757] at h
      refine lv_aload_n hx hb d_w_law_760 rfl (lv_at hl 5 rfl) ?_
      refine lv_iconst (v := 0) hx hb d_w_law_761 (by decide) ?_
      refine o_ald hx hb hC hX d_w_law_762 ?_
      refine lv_iload hx hb d_w_law_763 (lv_at hl 0 rfl) ?_
      refine lz_ifeq hx hb d_w_law_765 (tgt := 772) (by decide) (fun hc => ?_) (fun hc => ?_)
      · rw [if_neg hc] at h
        refine lv_lconst (v := 0) hx hb d_w_law_772 (by decide) ?_
        refine lx_ifeq hx hb d_w_law_773 d_w_law_774 (tgt := 779) (by decide) (fun hc => ?_) (fun hc => ?_)
        · rw [if_pos hc] at h
          refine lv_goto hx hb d_w_law_779 (tgt := 992) (by decide) ?_
          obtain rfl := Option.some.inj h
          exact kk H locs ls _ _ (Nat.le_refl _) (Nat.le_refl _) hX hS (lv_sub hl [2, 3, 4, 5, 6] rfl)
        · rw [if_neg hc] at h
          cases h
      · rw [if_pos hc] at h
        refine lv_lconst (v := 1) hx hb d_w_law_768 (by decide) ?_
        refine lv_goto hx hb d_w_law_769 (tgt := 773) (by decide) ?_
        refine lx_ifeq hx hb d_w_law_773 d_w_law_774 (tgt := 779) (by decide) (fun hc => ?_) (fun hc => ?_)
        · rw [if_pos hc] at h
          refine lv_goto hx hb d_w_law_779 (tgt := 992) (by decide) ?_
          obtain rfl := Option.some.inj h
          exact kk H locs ls _ _ (Nat.le_refl _) (Nat.le_refl _) hX hS (lv_sub hl [2, 3, 4, 5, 6] rfl)
        · rw [if_neg hc] at h
          cases h
  · rw [if_neg hc] at h
    cases h
def st_11 (a1 a2 a3 a4 : Int32) (Z : ST) : Option ST := ((w_run a1 a2 (Z.1, Z.2.1, Z.2.2)).bind fun q796 => ((m_run a1 a2 q796.1.2.1).bind fun q814 => ((m_thrown  q814.1).bind fun q820 => (if q820 = q796.2 then (if q796.2 = 0 then (if (q796.1.2.2 0) = q814.2.toInt64 then some (q796.1.1, q814.1, q796.1.2.2) else none) else some (q796.1.1, q814.1, q796.1.2.2)) else none))))
set_option maxHeartbeats 4000000 in
set_option maxRecDepth 100000 in
theorem L_11 {p : Program} {l : Launch} {e : Env} {R : Room} {s : State} {m : MethodId} {args : Array Value} {below : List Frame} {meth : Method} {c : Code} {H : Heap} {locs : List Loc} {cells slots : Nat} {Q : State → Prop} {ls : Array Slot} {D : va_G} {cA : Nat → ClassId} {b : Nat} {ad : Nat → Nat} {sb L : Nat} {xs : Nat → Int32} {i a1 a2 a3 a4 : Int32} {Z Z2 : ST} (hT : ∀ e, l.admits e → e.platform.stackTraces = false) (hR : R = room_1) (hx : p.tables.exec = Jvm.exec) (hb : c.code = code) (hts : ∀ w ∈ TW, w.before args s = true) (hown : s.vm.findClass "TypeGuardLaw" = some m.cls) (hml : c.maxLocals = 7) (hC : Cx D cA b ad s) (hY : Cy b s) (hSc : va_X sb L xs s s.heap) (hsb : sb < s.heap.size) (hsA : ¬ Ab b sb) (hi1 : inbd (i + 1) L = true) (hi2 : inbd (i + 2) L = true) (hi3 : inbd (i + 3) L = true) (hi4 : inbd (i + 4) L = true) (e1 : a1 = xs (txN (i + 1))) (e2 : a2 = xs (txN (i + 2))) (e3 : a3 = xs (txN (i + 3))) (e4 : a4 = xs (txN (i + 4))) (hX : hp D cA b ad Z H) (hS : va_S (Ab b) s.heap H locs) (hl : lv_has ls 7 [(0, .ref sb), (1, .ref (b + 0)), (2, .ref (b + 262)), (3, .ref (b + 293)), (4, .int i)]) (hcs : cells + 1 ≤ R.cells ∧ slots + 6 ≤ R.slots) (kk : ∀ (H : Heap) (locs : List Loc) (ls : Array Slot) (cn sn : Nat), cn ≤ cells + 1 → sn ≤ slots + 6 → hp D cA b ad Z2 H → va_S (Ab b) s.heap H locs → lv_has ls 7 [(0, .ref sb), (1, .ref (b + 0)), (2, .ref (b + 262)), (3, .ref (b + 293)), (4, .int i)] → W p l e R s m args below meth c H locs cn sn Q (F0 m 992 ls [])) (h : st_11 a1 a2 a3 a4 Z = some Z2) : W p l e R s m args below meth c H locs cells slots Q (F0 m 782 ls []) := by
  rw [st_11] at h
  have hc0 : cells ≤ R.cells ∧ slots ≤ R.slots := ⟨by omega, by omega⟩
  have hX : hp D cA b ad (Z.1, Z.2.1, Z.2.2) H := hX
  refine lv_aload_n hx hb d_w_law_782 rfl (lv_at hl 1 rfl) ?_
  refine lv_aload_n hx hb d_w_law_783 rfl (lv_at hl 0 rfl) ?_
  refine lv_iload hx hb d_w_law_784 (lv_at hl 4 rfl) ?_
  refine lv_iconst (v := 1) hx hb d_w_law_786 (by decide) ?_
  refine lv_iadd hx hb d_w_law_787 ?_
  refine va_sld hx hb hSc hsb hsA hS (inbd_in hi1) d_w_law_788 ?_
  refine lt_I e1 ?_
  refine lv_aload_n hx hb d_w_law_789 rfl (lv_at hl 0 rfl) ?_
  refine lv_iload hx hb d_w_law_790 (lv_at hl 4 rfl) ?_
  refine lv_iconst (v := 2) hx hb d_w_law_792 (by decide) ?_
  refine lv_iadd hx hb d_w_law_793 ?_
  refine va_sld hx hb hSc hsb hsA hS (inbd_in hi2) d_w_law_794 ?_
  refine lt_I e2 ?_
  refine lv_aload_n hx hb d_w_law_795 rfl (lv_at hl 3 rfl) ?_
  obtain ⟨q796, hc796, h⟩ := Option.bind_eq_some_iff.mp h
  refine ck_SW (As := [.ref (b + 0), .int a1, .int a2, .ref (b + 293)]) (rest := []) (st1 := [.int q796.2]) (M_w_run hT hc796) t_947 t_948 t_949 t_0 hx hb hts hown hC hY hX hS hml hl.1 ⟨by rw [hR]; decide, by rw [hR]; decide⟩ ⟨rfl, rfl⟩ (n := 4) (by decide +kernel) rfl rfl rfl (lv_room (Nat.le_of_ble_eq_true rfl)) d_w_law_796 hcs (fun H locs hX hS => ?_)
  have hX : hp D cA b ad (q796.1.1, q796.1.2.1, q796.1.2.2) H := hX
  refine lv_istore (lv' := [(5, .int q796.2), (0, .ref sb), (1, .ref (b + 0)), (2, .ref (b + 262)), (3, .ref (b + 293)), (4, .int i)]) hx hb d_w_law_799 hl (by decide) rfl (fun ls hl => ?_)
  refine lv_aload_n hx hb d_w_law_801 rfl (lv_at hl 3 rfl) ?_
  refine lv_aload_n hx hb d_w_law_802 rfl (lv_at hl 1 rfl) ?_
  refine lv_iload hx hb d_w_law_803 (lv_at hl 5 rfl) ?_
  refine lv_iconst (v := 1) hx hb d_w_law_805 (by decide) ?_
  refine lv_iadd hx hb d_w_law_806 ?_
  refine va_sld hx hb hSc hsb hsA hS (inbd_in hi1) d_w_law_807 ?_
  refine lt_I e1 ?_
  refine lv_aload_n hx hb d_w_law_808 rfl (lv_at hl 1 rfl) ?_
  refine lv_iload hx hb d_w_law_809 (lv_at hl 5 rfl) ?_
  refine lv_iconst (v := 2) hx hb d_w_law_811 (by decide) ?_
  refine lv_iadd hx hb d_w_law_812 ?_
  refine va_sld hx hb hSc hsb hsA hS (inbd_in hi2) d_w_law_813 ?_
  refine lt_I e2 ?_
  obtain ⟨q814, hc814, h⟩ := Option.bind_eq_some_iff.mp h
  refine ck_VC (As := [.int a1, .int a2]) (rest := []) (st1 := [.int q814.2]) (M_m_run (T := q796.1.1) (o := q796.1.2.2) hc814) t_1370 t_1371 t_1372 t_1373 t_13 hx hb hts hown hC hX hS (hrc_m0 hC hX (by rfl)) hml hl.1 ⟨by rw [hR]; decide, by rw [hR]; decide⟩ ⟨rfl, rfl⟩ (n := 2) (by decide +kernel) rfl rfl rfl (lv_room (Nat.le_of_ble_eq_true rfl)) d_w_law_814 hcs (fun H locs hX hS => ?_)
  have hX : hp D cA b ad (q796.1.1, q814.1, q796.1.2.2) H := hX
  refine lv_istore (lv' := [(6, .int q814.2), (5, .int q796.2), (0, .ref sb), (1, .ref (b + 0)), (2, .ref (b + 262)), (3, .ref (b + 293)), (4, .int i)]) hx hb d_w_law_817 hl (by decide) rfl (fun ls hl => ?_)
  refine lv_aload_n hx hb d_w_law_819 rfl (lv_at hl 4 rfl) ?_
  obtain ⟨q820, hc820, h⟩ := Option.bind_eq_some_iff.mp h
  refine ck_VC (As := []) (rest := []) (st1 := [.int q820]) (M_m_thrown (T := q796.1.1) (o := q796.1.2.2) hc820) t_1132 t_1133 t_1134 t_1135 t_13 hx hb hts hown hC hX hS (hrc_m0 hC hX (by rfl)) hml hl.1 ⟨by rw [hR]; decide, by rw [hR]; decide⟩ ⟨rfl, rfl⟩ (n := 0) (by decide +kernel) rfl rfl rfl (lv_room (Nat.le_of_ble_eq_true rfl)) d_w_law_820 hcs (fun H locs hX hS => ?_)
  have hX : hp D cA b ad (q796.1.1, q814.1, q796.1.2.2) H := hX
  refine lv_iload hx hb d_w_law_823 (lv_at hl 1 rfl) ?_
  refine lv_icmp_eq hx hb d_w_law_825 (tgt := 830) (by decide) (fun hc => ?_) (fun hc => ?_)
  · rw [if_pos hc] at h
    refine lv_iload hx hb d_w_law_830 (lv_at hl 1 rfl) ?_
    refine lv_if_ne hx hb d_w_law_832 (tgt := 847) (by decide) (fun hc832 => ?_) (fun hc832 => ?_)
    · rw [if_neg hc832] at h
      refine lv_goto hx hb d_w_law_847 (tgt := 992) (by decide) ?_
      obtain rfl := Option.some.inj h
      exact kk H locs ls _ _ (Nat.le_refl _) (Nat.le_refl _) hX hS (lv_sub hl [2, 3, 4, 5, 6] rfl)
    · rw [if_pos hc832] at h
      refine lv_aload_n hx hb d_w_law_835 rfl (lv_at hl 5 rfl) ?_
      refine lv_iconst (v := 0) hx hb d_w_law_836 (by decide) ?_
      refine o_ald hx hb hC hX d_w_law_837 ?_
      refine lv_iload hx hb d_w_law_838 (lv_at hl 0 rfl) ?_
      refine lv_i2l (v := q814.2.toInt64) hx hb d_w_law_840 rfl ?_
      refine lx_ifeq hx hb d_w_law_841 d_w_law_842 (tgt := 847) (by decide) (fun hc => ?_) (fun hc => ?_)
      · rw [if_pos hc] at h
        refine lv_goto hx hb d_w_law_847 (tgt := 992) (by decide) ?_
        obtain rfl := Option.some.inj h
        exact kk H locs ls _ _ (Nat.le_refl _) (Nat.le_refl _) hX hS (lv_sub hl [2, 3, 4, 5, 6] rfl)
      · rw [if_neg hc] at h
        cases h
  · rw [if_neg hc] at h
    cases h
def st_12 (a1 a2 a3 a4 : Int32) (Z : ST) : Option ST := ((w_make a1 a2 a3 (Z.1, Z.2.1, Z.2.2)).bind fun q870 => ((m_make a1 a2 a3 q870.1.2.1).bind fun q894 => ((m_thrown  q894.1).bind fun q900 => (if q900 = q870.2 then (if q870.2 = 0 then (if (q870.1.2.2 0) = q894.2.toInt64 then some (q870.1.1, q894.1, q870.1.2.2) else none) else some (q870.1.1, q894.1, q870.1.2.2)) else none))))
set_option maxHeartbeats 4000000 in
set_option maxRecDepth 100000 in
theorem L_12 {p : Program} {l : Launch} {e : Env} {R : Room} {s : State} {m : MethodId} {args : Array Value} {below : List Frame} {meth : Method} {c : Code} {H : Heap} {locs : List Loc} {cells slots : Nat} {Q : State → Prop} {ls : Array Slot} {D : va_G} {cA : Nat → ClassId} {b : Nat} {ad : Nat → Nat} {sb L : Nat} {xs : Nat → Int32} {i a1 a2 a3 a4 : Int32} {Z Z2 : ST} (hT : ∀ e, l.admits e → e.platform.stackTraces = false) (hR : R = room_1) (hx : p.tables.exec = Jvm.exec) (hb : c.code = code) (hts : ∀ w ∈ TW, w.before args s = true) (hown : s.vm.findClass "TypeGuardLaw" = some m.cls) (hml : c.maxLocals = 7) (hC : Cx D cA b ad s) (hY : Cy b s) (hSc : va_X sb L xs s s.heap) (hsb : sb < s.heap.size) (hsA : ¬ Ab b sb) (hi1 : inbd (i + 1) L = true) (hi2 : inbd (i + 2) L = true) (hi3 : inbd (i + 3) L = true) (hi4 : inbd (i + 4) L = true) (e1 : a1 = xs (txN (i + 1))) (e2 : a2 = xs (txN (i + 2))) (e3 : a3 = xs (txN (i + 3))) (e4 : a4 = xs (txN (i + 4))) (hX : hp D cA b ad Z H) (hS : va_S (Ab b) s.heap H locs) (hl : lv_has ls 7 [(0, .ref sb), (1, .ref (b + 0)), (2, .ref (b + 262)), (3, .ref (b + 293)), (4, .int i)]) (hcs : cells + 1 ≤ R.cells ∧ slots + 6 ≤ R.slots) (kk : ∀ (H : Heap) (locs : List Loc) (ls : Array Slot) (cn sn : Nat), cn ≤ cells + 1 → sn ≤ slots + 6 → hp D cA b ad Z2 H → va_S (Ab b) s.heap H locs → lv_has ls 7 [(0, .ref sb), (1, .ref (b + 0)), (2, .ref (b + 262)), (3, .ref (b + 293)), (4, .int i)] → W p l e R s m args below meth c H locs cn sn Q (F0 m 992 ls [])) (h : st_12 a1 a2 a3 a4 Z = some Z2) : W p l e R s m args below meth c H locs cells slots Q (F0 m 850 ls []) := by
  rw [st_12] at h
  have hc0 : cells ≤ R.cells ∧ slots ≤ R.slots := ⟨by omega, by omega⟩
  have hX : hp D cA b ad (Z.1, Z.2.1, Z.2.2) H := hX
  refine lv_aload_n hx hb d_w_law_850 rfl (lv_at hl 1 rfl) ?_
  refine lv_aload_n hx hb d_w_law_851 rfl (lv_at hl 0 rfl) ?_
  refine lv_iload hx hb d_w_law_852 (lv_at hl 4 rfl) ?_
  refine lv_iconst (v := 1) hx hb d_w_law_854 (by decide) ?_
  refine lv_iadd hx hb d_w_law_855 ?_
  refine va_sld hx hb hSc hsb hsA hS (inbd_in hi1) d_w_law_856 ?_
  refine lt_I e1 ?_
  refine lv_aload_n hx hb d_w_law_857 rfl (lv_at hl 0 rfl) ?_
  refine lv_iload hx hb d_w_law_858 (lv_at hl 4 rfl) ?_
  refine lv_iconst (v := 2) hx hb d_w_law_860 (by decide) ?_
  refine lv_iadd hx hb d_w_law_861 ?_
  refine va_sld hx hb hSc hsb hsA hS (inbd_in hi2) d_w_law_862 ?_
  refine lt_I e2 ?_
  refine lv_aload_n hx hb d_w_law_863 rfl (lv_at hl 0 rfl) ?_
  refine lv_iload hx hb d_w_law_864 (lv_at hl 4 rfl) ?_
  refine lv_iconst (v := 3) hx hb d_w_law_866 (by decide) ?_
  refine lv_iadd hx hb d_w_law_867 ?_
  refine va_sld hx hb hSc hsb hsA hS (inbd_in hi3) d_w_law_868 ?_
  refine lt_I e3 ?_
  refine lv_aload_n hx hb d_w_law_869 rfl (lv_at hl 3 rfl) ?_
  obtain ⟨q870, hc870, h⟩ := Option.bind_eq_some_iff.mp h
  refine ck_SW (As := [.ref (b + 0), .int a1, .int a2, .int a3, .ref (b + 293)]) (rest := []) (st1 := [.int q870.2]) (M_w_make hT hc870) t_974 t_975 t_976 t_0 hx hb hts hown hC hY hX hS hml hl.1 ⟨by rw [hR]; decide, by rw [hR]; decide⟩ ⟨rfl, rfl⟩ (n := 5) (by decide +kernel) rfl rfl rfl (lv_room (Nat.le_of_ble_eq_true rfl)) d_w_law_870 hcs (fun H locs hX hS => ?_)
  have hX : hp D cA b ad (q870.1.1, q870.1.2.1, q870.1.2.2) H := hX
  refine lv_istore (lv' := [(5, .int q870.2), (0, .ref sb), (1, .ref (b + 0)), (2, .ref (b + 262)), (3, .ref (b + 293)), (4, .int i)]) hx hb d_w_law_873 hl (by decide) rfl (fun ls hl => ?_)
  refine lv_aload_n hx hb d_w_law_875 rfl (lv_at hl 3 rfl) ?_
  refine lv_aload_n hx hb d_w_law_876 rfl (lv_at hl 1 rfl) ?_
  refine lv_iload hx hb d_w_law_877 (lv_at hl 5 rfl) ?_
  refine lv_iconst (v := 1) hx hb d_w_law_879 (by decide) ?_
  refine lv_iadd hx hb d_w_law_880 ?_
  refine va_sld hx hb hSc hsb hsA hS (inbd_in hi1) d_w_law_881 ?_
  refine lt_I e1 ?_
  refine lv_aload_n hx hb d_w_law_882 rfl (lv_at hl 1 rfl) ?_
  refine lv_iload hx hb d_w_law_883 (lv_at hl 5 rfl) ?_
  refine lv_iconst (v := 2) hx hb d_w_law_885 (by decide) ?_
  refine lv_iadd hx hb d_w_law_886 ?_
  refine va_sld hx hb hSc hsb hsA hS (inbd_in hi2) d_w_law_887 ?_
  refine lt_I e2 ?_
  refine lv_aload_n hx hb d_w_law_888 rfl (lv_at hl 1 rfl) ?_
  refine lv_iload hx hb d_w_law_889 (lv_at hl 5 rfl) ?_
  refine lv_iconst (v := 3) hx hb d_w_law_891 (by decide) ?_
  refine lv_iadd hx hb d_w_law_892 ?_
  refine va_sld hx hb hSc hsb hsA hS (inbd_in hi3) d_w_law_893 ?_
  refine lt_I e3 ?_
  obtain ⟨q894, hc894, h⟩ := Option.bind_eq_some_iff.mp h
  refine ck_VC (As := [.int a1, .int a2, .int a3]) (rest := []) (st1 := [.int q894.2]) (M_m_make (T := q870.1.1) (o := q870.1.2.2) hc894) t_1378 t_1379 t_1380 t_1381 t_13 hx hb hts hown hC hX hS (hrc_m0 hC hX (by rfl)) hml hl.1 ⟨by rw [hR]; decide, by rw [hR]; decide⟩ ⟨rfl, rfl⟩ (n := 3) (by decide +kernel) rfl rfl rfl (lv_room (Nat.le_of_ble_eq_true rfl)) d_w_law_894 hcs (fun H locs hX hS => ?_)
  have hX : hp D cA b ad (q870.1.1, q894.1, q870.1.2.2) H := hX
  refine lv_istore (lv' := [(6, .int q894.2), (5, .int q870.2), (0, .ref sb), (1, .ref (b + 0)), (2, .ref (b + 262)), (3, .ref (b + 293)), (4, .int i)]) hx hb d_w_law_897 hl (by decide) rfl (fun ls hl => ?_)
  refine lv_aload_n hx hb d_w_law_899 rfl (lv_at hl 4 rfl) ?_
  obtain ⟨q900, hc900, h⟩ := Option.bind_eq_some_iff.mp h
  refine ck_VC (As := []) (rest := []) (st1 := [.int q900]) (M_m_thrown (T := q870.1.1) (o := q870.1.2.2) hc900) t_1132 t_1133 t_1134 t_1135 t_13 hx hb hts hown hC hX hS (hrc_m0 hC hX (by rfl)) hml hl.1 ⟨by rw [hR]; decide, by rw [hR]; decide⟩ ⟨rfl, rfl⟩ (n := 0) (by decide +kernel) rfl rfl rfl (lv_room (Nat.le_of_ble_eq_true rfl)) d_w_law_900 hcs (fun H locs hX hS => ?_)
  have hX : hp D cA b ad (q870.1.1, q894.1, q870.1.2.2) H := hX
  refine lv_iload hx hb d_w_law_903 (lv_at hl 1 rfl) ?_
  refine lv_icmp_eq hx hb d_w_law_905 (tgt := 910) (by decide) (fun hc => ?_) (fun hc => ?_)
  · rw [if_pos hc] at h
    refine lv_iload hx hb d_w_law_910 (lv_at hl 1 rfl) ?_
    refine lv_if_ne hx hb d_w_law_912 (tgt := 927) (by decide) (fun hc912 => ?_) (fun hc912 => ?_)
    · rw [if_neg hc912] at h
      refine lv_goto hx hb d_w_law_927 (tgt := 992) (by decide) ?_
      obtain rfl := Option.some.inj h
      exact kk H locs ls _ _ (Nat.le_refl _) (Nat.le_refl _) hX hS (lv_sub hl [2, 3, 4, 5, 6] rfl)
    · rw [if_pos hc912] at h
      refine lv_aload_n hx hb d_w_law_915 rfl (lv_at hl 5 rfl) ?_
      refine lv_iconst (v := 0) hx hb d_w_law_916 (by decide) ?_
      refine o_ald hx hb hC hX d_w_law_917 ?_
      refine lv_iload hx hb d_w_law_918 (lv_at hl 0 rfl) ?_
      refine lv_i2l (v := q894.2.toInt64) hx hb d_w_law_920 rfl ?_
      refine lx_ifeq hx hb d_w_law_921 d_w_law_922 (tgt := 927) (by decide) (fun hc => ?_) (fun hc => ?_)
      · rw [if_pos hc] at h
        refine lv_goto hx hb d_w_law_927 (tgt := 992) (by decide) ?_
        obtain rfl := Option.some.inj h
        exact kk H locs ls _ _ (Nat.le_refl _) (Nat.le_refl _) hX hS (lv_sub hl [2, 3, 4, 5, 6] rfl)
      · rw [if_neg hc] at h
        cases h
  · rw [if_neg hc] at h
    cases h
def st_13 (a1 a2 a3 a4 : Int32) (Z : ST) : Option ST := ((cG_cache a1 Z.1).bind fun q937 => ((m_cache a1 Z.2.1).bind fun q947 => (if q937 = q947.2 then some (Z.1, q947.1, Z.2.2) else none)))
set_option maxHeartbeats 4000000 in
set_option maxRecDepth 100000 in
theorem L_13 {p : Program} {l : Launch} {e : Env} {R : Room} {s : State} {m : MethodId} {args : Array Value} {below : List Frame} {meth : Method} {c : Code} {H : Heap} {locs : List Loc} {cells slots : Nat} {Q : State → Prop} {ls : Array Slot} {D : va_G} {cA : Nat → ClassId} {b : Nat} {ad : Nat → Nat} {sb L : Nat} {xs : Nat → Int32} {i a1 a2 a3 a4 : Int32} {Z Z2 : ST} (hT : ∀ e, l.admits e → e.platform.stackTraces = false) (hR : R = room_1) (hx : p.tables.exec = Jvm.exec) (hb : c.code = code) (hts : ∀ w ∈ TW, w.before args s = true) (hown : s.vm.findClass "TypeGuardLaw" = some m.cls) (hml : c.maxLocals = 7) (hC : Cx D cA b ad s) (hY : Cy b s) (hSc : va_X sb L xs s s.heap) (hsb : sb < s.heap.size) (hsA : ¬ Ab b sb) (hi1 : inbd (i + 1) L = true) (hi2 : inbd (i + 2) L = true) (hi3 : inbd (i + 3) L = true) (hi4 : inbd (i + 4) L = true) (e1 : a1 = xs (txN (i + 1))) (e2 : a2 = xs (txN (i + 2))) (e3 : a3 = xs (txN (i + 3))) (e4 : a4 = xs (txN (i + 4))) (hX : hp D cA b ad Z H) (hS : va_S (Ab b) s.heap H locs) (hl : lv_has ls 7 [(0, .ref sb), (1, .ref (b + 0)), (2, .ref (b + 262)), (3, .ref (b + 293)), (4, .int i)]) (hcs : cells + 1 ≤ R.cells ∧ slots + 6 ≤ R.slots) (kk : ∀ (H : Heap) (locs : List Loc) (ls : Array Slot) (cn sn : Nat), cn ≤ cells + 1 → sn ≤ slots + 6 → hp D cA b ad Z2 H → va_S (Ab b) s.heap H locs → lv_has ls 7 [(0, .ref sb), (1, .ref (b + 0)), (2, .ref (b + 262)), (3, .ref (b + 293)), (4, .int i)] → W p l e R s m args below meth c H locs cn sn Q (F0 m 992 ls [])) (h : st_13 a1 a2 a3 a4 Z = some Z2) : W p l e R s m args below meth c H locs cells slots Q (F0 m 930 ls []) := by
  rw [st_13] at h
  have hc0 : cells ≤ R.cells ∧ slots ≤ R.slots := ⟨by omega, by omega⟩
  have hX : hp D cA b ad (Z.1, Z.2.1, Z.2.2) H := hX
  refine lv_aload_n hx hb d_w_law_930 rfl (lv_at hl 1 rfl) ?_
  refine lv_aload_n hx hb d_w_law_931 rfl (lv_at hl 0 rfl) ?_
  refine lv_iload hx hb d_w_law_932 (lv_at hl 4 rfl) ?_
  refine lv_iconst (v := 1) hx hb d_w_law_934 (by decide) ?_
  refine lv_iadd hx hb d_w_law_935 ?_
  refine va_sld hx hb hSc hsb hsA hS (inbd_in hi1) d_w_law_936 ?_
  refine lt_I e1 ?_
  obtain ⟨q937, hc937, h⟩ := Option.bind_eq_some_iff.mp h
  refine ck_VC (As := [.int a1]) (rest := []) (st1 := [.int q937]) (M_cG_cache (T := (Z.2.1, Z.2.2)) hc937) t_400 t_401 t_402 t_403 t_1 hx hb hts hown hC hX hS (hrc_c0 hC hX (by rfl)) hml hl.1 ⟨by rw [hR]; decide, by rw [hR]; decide⟩ ⟨rfl, rfl⟩ (n := 1) (by decide +kernel) rfl rfl rfl (lv_room (Nat.le_of_ble_eq_true rfl)) d_w_law_937 hc0 (fun H locs hX hS => ?_)
  have hX : hp D cA b ad (Z.1, Z.2.1, Z.2.2) H := hX
  refine lv_aload_n hx hb d_w_law_940 rfl (lv_at hl 2 rfl) ?_
  refine lv_aload_n hx hb d_w_law_941 rfl (lv_at hl 0 rfl) ?_
  refine lv_iload hx hb d_w_law_942 (lv_at hl 4 rfl) ?_
  refine lv_iconst (v := 1) hx hb d_w_law_944 (by decide) ?_
  refine lv_iadd hx hb d_w_law_945 ?_
  refine va_sld hx hb hSc hsb hsA hS (inbd_in hi1) d_w_law_946 ?_
  refine lt_I e1 ?_
  obtain ⟨q947, hc947, h⟩ := Option.bind_eq_some_iff.mp h
  refine ck_VC (As := [.int a1]) (rest := [.int q937]) (st1 := [.int q947.2, .int q937]) (M_m_cache (T := Z.1) (o := Z.2.2) hc947) t_1382 t_1383 t_1384 t_1385 t_13 hx hb hts hown hC hX hS (hrc_m0 hC hX (by rfl)) hml hl.1 ⟨by rw [hR]; decide, by rw [hR]; decide⟩ ⟨rfl, rfl⟩ (n := 1) (by decide +kernel) rfl rfl rfl (lv_room (Nat.le_of_ble_eq_true rfl)) d_w_law_947 hc0 (fun H locs hX hS => ?_)
  have hX : hp D cA b ad (Z.1, q947.1, Z.2.2) H := hX
  refine lv_icmp_eq hx hb d_w_law_950 (tgt := 992) (by decide) (fun hc => ?_) (fun hc => ?_)
  · rw [if_pos hc] at h
    obtain rfl := Option.some.inj h
    exact kk H locs ls _ _ (Nat.le_add_right _ _) (Nat.le_add_right _ _) hX hS (lv_sub hl [0, 1, 2, 3, 4] rfl)
  · rw [if_neg hc] at h
    cases h
def st_14 (a1 a2 a3 a4 : Int32) (Z : ST) : Option ST := ((cG_note a1 a2 Z.1).bind fun q968 => ((m_note a1 a2 Z.2.1).bind fun q984 => (if q968 = q984.2 then some (Z.1, q984.1, Z.2.2) else none)))
set_option maxHeartbeats 4000000 in
set_option maxRecDepth 100000 in
theorem L_14 {p : Program} {l : Launch} {e : Env} {R : Room} {s : State} {m : MethodId} {args : Array Value} {below : List Frame} {meth : Method} {c : Code} {H : Heap} {locs : List Loc} {cells slots : Nat} {Q : State → Prop} {ls : Array Slot} {D : va_G} {cA : Nat → ClassId} {b : Nat} {ad : Nat → Nat} {sb L : Nat} {xs : Nat → Int32} {i a1 a2 a3 a4 : Int32} {Z Z2 : ST} (hT : ∀ e, l.admits e → e.platform.stackTraces = false) (hR : R = room_1) (hx : p.tables.exec = Jvm.exec) (hb : c.code = code) (hts : ∀ w ∈ TW, w.before args s = true) (hown : s.vm.findClass "TypeGuardLaw" = some m.cls) (hml : c.maxLocals = 7) (hC : Cx D cA b ad s) (hY : Cy b s) (hSc : va_X sb L xs s s.heap) (hsb : sb < s.heap.size) (hsA : ¬ Ab b sb) (hi1 : inbd (i + 1) L = true) (hi2 : inbd (i + 2) L = true) (hi3 : inbd (i + 3) L = true) (hi4 : inbd (i + 4) L = true) (e1 : a1 = xs (txN (i + 1))) (e2 : a2 = xs (txN (i + 2))) (e3 : a3 = xs (txN (i + 3))) (e4 : a4 = xs (txN (i + 4))) (hX : hp D cA b ad Z H) (hS : va_S (Ab b) s.heap H locs) (hl : lv_has ls 7 [(0, .ref sb), (1, .ref (b + 0)), (2, .ref (b + 262)), (3, .ref (b + 293)), (4, .int i)]) (hcs : cells + 1 ≤ R.cells ∧ slots + 6 ≤ R.slots) (kk : ∀ (H : Heap) (locs : List Loc) (ls : Array Slot) (cn sn : Nat), cn ≤ cells + 1 → sn ≤ slots + 6 → hp D cA b ad Z2 H → va_S (Ab b) s.heap H locs → lv_has ls 7 [(0, .ref sb), (1, .ref (b + 0)), (2, .ref (b + 262)), (3, .ref (b + 293)), (4, .int i)] → W p l e R s m args below meth c H locs cn sn Q (F0 m 992 ls [])) (h : st_14 a1 a2 a3 a4 Z = some Z2) : W p l e R s m args below meth c H locs cells slots Q (F0 m 955 ls []) := by
  rw [st_14] at h
  have hc0 : cells ≤ R.cells ∧ slots ≤ R.slots := ⟨by omega, by omega⟩
  have hX : hp D cA b ad (Z.1, Z.2.1, Z.2.2) H := hX
  refine lv_aload_n hx hb d_w_law_955 rfl (lv_at hl 1 rfl) ?_
  refine lv_aload_n hx hb d_w_law_956 rfl (lv_at hl 0 rfl) ?_
  refine lv_iload hx hb d_w_law_957 (lv_at hl 4 rfl) ?_
  refine lv_iconst (v := 1) hx hb d_w_law_959 (by decide) ?_
  refine lv_iadd hx hb d_w_law_960 ?_
  refine va_sld hx hb hSc hsb hsA hS (inbd_in hi1) d_w_law_961 ?_
  refine lt_I e1 ?_
  refine lv_aload_n hx hb d_w_law_962 rfl (lv_at hl 0 rfl) ?_
  refine lv_iload hx hb d_w_law_963 (lv_at hl 4 rfl) ?_
  refine lv_iconst (v := 2) hx hb d_w_law_965 (by decide) ?_
  refine lv_iadd hx hb d_w_law_966 ?_
  refine va_sld hx hb hSc hsb hsA hS (inbd_in hi2) d_w_law_967 ?_
  refine lt_I e2 ?_
  obtain ⟨q968, hc968, h⟩ := Option.bind_eq_some_iff.mp h
  refine ck_VC (As := [.int a1, .int a2]) (rest := []) (st1 := [.int q968]) (M_cG_note (T := (Z.2.1, Z.2.2)) hc968) t_408 t_409 t_410 t_411 t_1 hx hb hts hown hC hX hS (hrc_c0 hC hX (by rfl)) hml hl.1 ⟨by rw [hR]; decide, by rw [hR]; decide⟩ ⟨rfl, rfl⟩ (n := 2) (by decide +kernel) rfl rfl rfl (lv_room (Nat.le_of_ble_eq_true rfl)) d_w_law_968 hc0 (fun H locs hX hS => ?_)
  have hX : hp D cA b ad (Z.1, Z.2.1, Z.2.2) H := hX
  refine lv_aload_n hx hb d_w_law_971 rfl (lv_at hl 2 rfl) ?_
  refine lv_aload_n hx hb d_w_law_972 rfl (lv_at hl 0 rfl) ?_
  refine lv_iload hx hb d_w_law_973 (lv_at hl 4 rfl) ?_
  refine lv_iconst (v := 1) hx hb d_w_law_975 (by decide) ?_
  refine lv_iadd hx hb d_w_law_976 ?_
  refine va_sld hx hb hSc hsb hsA hS (inbd_in hi1) d_w_law_977 ?_
  refine lt_I e1 ?_
  refine lv_aload_n hx hb d_w_law_978 rfl (lv_at hl 0 rfl) ?_
  refine lv_iload hx hb d_w_law_979 (lv_at hl 4 rfl) ?_
  refine lv_iconst (v := 2) hx hb d_w_law_981 (by decide) ?_
  refine lv_iadd hx hb d_w_law_982 ?_
  refine va_sld hx hb hSc hsb hsA hS (inbd_in hi2) d_w_law_983 ?_
  refine lt_I e2 ?_
  obtain ⟨q984, hc984, h⟩ := Option.bind_eq_some_iff.mp h
  refine ck_VC (As := [.int a1, .int a2]) (rest := [.int q968]) (st1 := [.int q984.2, .int q968]) (M_m_note (T := Z.1) (o := Z.2.2) hc984) t_1386 t_1387 t_1388 t_1389 t_13 hx hb hts hown hC hX hS (hrc_m0 hC hX (by rfl)) hml hl.1 ⟨by rw [hR]; decide, by rw [hR]; decide⟩ ⟨rfl, rfl⟩ (n := 2) (by decide +kernel) rfl rfl rfl (lv_room (Nat.le_of_ble_eq_true rfl)) d_w_law_984 hc0 (fun H locs hX hS => ?_)
  have hX : hp D cA b ad (Z.1, q984.1, Z.2.2) H := hX
  refine lv_icmp_eq hx hb d_w_law_987 (tgt := 992) (by decide) (fun hc => ?_) (fun hc => ?_)
  · rw [if_pos hc] at h
    obtain rfl := Option.some.inj h
    exact kk H locs ls _ _ (Nat.le_add_right _ _) (Nat.le_add_right _ _) hX hS (lv_sub hl [0, 1, 2, 3, 4] rfl)
  · rw [if_neg hc] at h
    cases h
