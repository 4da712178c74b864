abbrev y_m_enter : MethodName := ({ cls := "TypeGuardModel", name := "enter", desc := "(II)V" } : Jvm.MethodName)
theorem d_m_enter_0 : decode prog_14_method_50_code 0 = .ok (.aload_n 0, 1) := by decide +kernel
theorem d_m_enter_1 : decode prog_14_method_50_code 1 = .ok (.iload_n 1, 1) := by decide +kernel
theorem d_m_enter_2 : decode prog_14_method_50_code 2 = .ok (.invokestatic 303, 3) := by decide +kernel
theorem d_m_enter_5 : decode prog_14_method_50_code 5 = .ok (.ifCond .eq 15, 3) := by decide +kernel
theorem d_m_enter_8 : decode prog_14_method_50_code 8 = .ok (.aload_n 0, 1) := by decide +kernel
theorem d_m_enter_9 : decode prog_14_method_50_code 9 = .ok (.iload_n 2, 1) := by decide +kernel
theorem d_m_enter_10 : decode prog_14_method_50_code 10 = .ok (.invokevirtual 293, 3) := by decide +kernel
theorem d_m_enter_13 : decode prog_14_method_50_code 13 = .ok (.ifCond .eq 7, 3) := by decide +kernel
theorem d_m_enter_16 : decode prog_14_method_50_code 16 = .ok (.iconst 0, 1) := by decide +kernel
theorem d_m_enter_17 : decode prog_14_method_50_code 17 = .ok (.goto 4, 3) := by decide +kernel
theorem d_m_enter_20 : decode prog_14_method_50_code 20 = .ok (.iconst 1, 1) := by decide +kernel
theorem d_m_enter_21 : decode prog_14_method_50_code 21 = .ok (.putfield 106, 3) := by decide +kernel
theorem d_m_enter_24 : decode prog_14_method_50_code 24 = .ok (.aload_n 0, 1) := by decide +kernel
theorem d_m_enter_25 : decode prog_14_method_50_code 25 = .ok (.getfield 106, 3) := by decide +kernel
theorem d_m_enter_28 : decode prog_14_method_50_code 28 = .ok (.ifCond .ne 23, 3) := by decide +kernel
theorem d_m_enter_31 : decode prog_14_method_50_code 31 = .ok (.aload_n 0, 1) := by decide +kernel
theorem d_m_enter_32 : decode prog_14_method_50_code 32 = .ok (.getfield 82, 3) := by decide +kernel
theorem d_m_enter_35 : decode prog_14_method_50_code 35 = .ok (.iload_n 1, 1) := by decide +kernel
theorem d_m_enter_36 : decode prog_14_method_50_code 36 = .ok (.aload_n 0, 1) := by decide +kernel
theorem d_m_enter_37 : decode prog_14_method_50_code 37 = .ok (.getfield 20, 3) := by decide +kernel
theorem d_m_enter_40 : decode prog_14_method_50_code 40 = .ok (.bipush 12, 2) := by decide +kernel
theorem d_m_enter_42 : decode prog_14_method_50_code 42 = .ok (.aload_n 0, 1) := by decide +kernel
theorem d_m_enter_43 : decode prog_14_method_50_code 43 = .ok (.getfield 154, 3) := by decide +kernel
theorem d_m_enter_46 : decode prog_14_method_50_code 46 = .ok (.imul, 1) := by decide +kernel
theorem d_m_enter_47 : decode prog_14_method_50_code 47 = .ok (.iload_n 2, 1) := by decide +kernel
theorem d_m_enter_48 : decode prog_14_method_50_code 48 = .ok (.iadd, 1) := by decide +kernel
theorem d_m_enter_49 : decode prog_14_method_50_code 49 = .ok (.laload, 1) := by decide +kernel
theorem d_m_enter_50 : decode prog_14_method_50_code 50 = .ok (.lastore, 1) := by decide +kernel
theorem d_m_enter_51 : decode prog_14_method_50_code 51 = .ok (.return_, 1) := by decide +kernel
def m_enter_J21 (v1_21 : Int32) (v2_21 : Int32) (s0_21 : Bool) (S_21 : MS) : Option MS := (bd (pI S_21 0 0 (bI s0_21)) fun S21 => (if (gI S21 0 0) = 0 then (if inbd ((12 * (gI S21 0 12)) + v2_21) 24 = true then (if inbd v1_21 6 = true then (bd (pL S21 23 (txN v1_21) (gL S21 3 (txN ((12 * (gI S21 0 12)) + v2_21)))) fun S50 => some S50) else none) else none) else some S21))
def m_enter_J20 (v1_20 : Int32) (v2_20 : Int32) (S_20 : MS) : Option MS := m_enter_J21 v1_20 v2_20 true S_20
def m_enter (x1 : Int32) (x2 : Int32) (S : MS) : Option MS := ((m_isProcess x1).bind fun q2 => (if q2 = true then ((m_isType x2 S).bind fun q10 => (if q10 = true then m_enter_J21 x1 x2 false S else m_enter_J20 x1 x2 S)) else m_enter_J20 x1 x2 S))
set_option maxHeartbeats 4000000 in
set_option maxRecDepth 100000 in
theorem M_m_enter {l : Launch} {D : va_G} {cA : Nat → ClassId} {b : Nat} {ad : Nat → Nat} {x1 : Int32} {x2 : Int32} {S : MS} {T : CS} {o : Nat → Int64} {rr : MS}  (h : m_enter x1 x2 S = some rr) : Met l y_m_enter (Cond.code y_m_enter prog_14_method_50_code 3 (Option.none : Option Jvm.ClassFile.FieldType) :: TW) { frames := 1, cells := 0, slots := 0, locals := 21 } (va_Pc [.ref (b + 262), .int x1, .int x2] (Rp D cA b ad (T, S, o))) (Qr D cA b ad (T, rr, o) none) 0 0 (Ab b) := by
  refine Ct_of (by decide) (Nat.le_of_ble_eq_true rfl) ?_
  intro p e R s m args below meth c ls Q H locs hR hQ hx hb hts hown hml hr hlk hC hX hS hl
  have hRf : R.frames = 1 := by rw [hR]
  have hRl : R.locals = 21 := by rw [hR]
  have hown : s.vm.findClass "TypeGuardModel" = some m.cls := hown
  have hl : lv_has ls 3 [(0, .ref (b + 262)), (1, .int x1), (2, .int x2)] := hl
  rw [m_enter] at h
  refine lv_aload_n hx hb d_m_enter_0 rfl (lv_at hl 0 rfl) ?_
  refine lv_iload_n hx hb d_m_enter_1 rfl (lv_at hl 1 rfl) ?_
  obtain ⟨q2, hc2, h⟩ := Option.bind_eq_some_iff.mp h
  refine ck_S (As := [.int x1]) (rest := [.ref (b + 262)]) (st1 := [.int (bI q2), .ref (b + 262)]) (M_m_isProcess  hc2) t_1332 t_1333 t_1334 t_13 hx hb hts hown hC hX hS  hml hl.1 ⟨by rw [hRf]; decide, by rw [hRl]; decide⟩ ⟨rfl, rfl⟩ (n := 1) (by decide +kernel) rfl rfl rfl (lv_room (Nat.le_of_ble_eq_true rfl)) d_m_enter_2 (fun H locs hX hS => ?_)
  have J21 : ∀ (s0_21 : Bool) (H : Heap) (locs : List Loc) (ls : Array Slot), hp D cA b ad (T, S, o) H → va_S (Ab b) s.heap H locs → lv_has ls 3 [(0, .ref (b + 262)), (1, .int x1), (2, .int x2)] → m_enter_J21 x1 x2 s0_21 S = some rr → W p l e R s m args below meth c H locs 0 0 Q (F0 m 21 ls [.int (bI s0_21), .ref (b + 262)]) := by
    intro s0_21 H locs ls  hX hS hl h
    rw [m_enter_J21] at h
    refine m_put_0_0 (v := (bI s0_21)) hx hb hts hown hC hX hS (by rfl) (hts _ t_987) d_m_enter_21 (fun H locs hX hS => ?_)
    obtain ⟨S21, e21, h⟩ := bd_some h
    rw [← e21] at hX
    refine lv_aload_n hx hb d_m_enter_24 rfl (lv_at hl 0 rfl) ?_
    refine m_get_0_0 hx hb hts hown hC hX (by rfl) (hts _ t_987) d_m_enter_25 ?_
    refine lv_if_ne hx hb d_m_enter_28 (tgt := 51) (by decide) (fun hc => ?_) (fun hc => ?_)
    · rw [if_neg hc] at h
      obtain rfl := Option.some.inj h
      exact rt_v hQ hx hb hr hX hS hlk d_m_enter_51
    · rw [if_pos hc] at h
      refine lv_aload_n hx hb d_m_enter_31 rfl (lv_at hl 0 rfl) ?_
      refine m_get_0_35 hx hb hts hown hC hX (by rfl) (hts _ t_1022) d_m_enter_32 ?_
      refine lv_iload_n hx hb d_m_enter_35 rfl (lv_at hl 1 rfl) ?_
      refine lv_aload_n hx hb d_m_enter_36 rfl (lv_at hl 0 rfl) ?_
      refine m_get_0_14 hx hb hts hown hC hX (by rfl) (hts _ t_1001) d_m_enter_37 ?_
      refine lv_bipush (v := 12) hx hb d_m_enter_40 (by decide) ?_
      refine lv_aload_n hx hb d_m_enter_42 rfl (lv_at hl 0 rfl) ?_
      refine m_get_0_12 hx hb hts hown hC hX (by rfl) (hts _ t_999) d_m_enter_43 ?_
      refine lv_imul hx hb d_m_enter_46 ?_
      refine lv_iload_n hx hb d_m_enter_47 rfl (lv_at hl 2 rfl) ?_
      refine lv_iadd hx hb d_m_enter_48 ?_
      by_cases hg49 : inbd ((12 * (gI S21 0 12)) + x2) 24 = true
      rotate_left; · rw [if_neg hg49] at h; cases h
      rw [if_pos hg49] at h
      refine m_ald_2 (k := 3) hx hb hC hX (by rfl) hg49 d_m_enter_49 ?_
      by_cases hg50 : inbd x1 6 = true
      rotate_left; · rw [if_neg hg50] at h; cases h
      rw [if_pos hg50] at h
      refine m_ast_2 (k := 23) (v := (gL S21 3 (txN ((12 * (gI S21 0 12)) + x2)))) hx hb hC hX hS (by rfl) hg50 d_m_enter_50 (fun H locs hX hS => ?_)
      obtain ⟨S50, e50, h⟩ := bd_some h
      rw [← e50] at hX
      obtain rfl := Option.some.inj h
      exact rt_v hQ hx hb hr hX hS hlk d_m_enter_51
  have J20 : ∀  (H : Heap) (locs : List Loc) (ls : Array Slot), hp D cA b ad (T, S, o) H → va_S (Ab b) s.heap H locs → lv_has ls 3 [(0, .ref (b + 262)), (1, .int x1), (2, .int x2)] → m_enter_J20 x1 x2 S = some rr → W p l e R s m args below meth c H locs 0 0 Q (F0 m 20 ls [.ref (b + 262)]) := by
    intro  H locs ls  hX hS hl h
    rw [m_enter_J20] at h
    refine lv_iconst (v := 1) hx hb d_m_enter_20 (by decide) ?_
    exact J21 true H locs ls  hX hS (lv_sub hl [0, 1, 2] rfl) h
  refine lz_ifeq hx hb d_m_enter_5 (tgt := 20) (by decide) (fun hc => ?_) (fun hc => ?_)
  · rw [if_neg hc] at h
    exact J20  H locs ls  hX hS (lv_sub hl [0, 1, 2] rfl) h
  · rw [if_pos hc] at h
    refine lv_aload_n hx hb d_m_enter_8 rfl (lv_at hl 0 rfl) ?_
    refine lv_iload_n hx hb d_m_enter_9 rfl (lv_at hl 2 rfl) ?_
    obtain ⟨q10, hc10, h⟩ := Option.bind_eq_some_iff.mp h
    refine ck_V (As := [.int x2]) (rest := [.ref (b + 262)]) (st1 := [.int (bI q10), .ref (b + 262)]) (M_m_isType  hc10) t_1308 t_1310 p_67 t_1311 t_13 hx hb hts hown hC hX hS (hrc_m0 hC hX (by rfl)) hml hl.1 ⟨by rw [hRf]; decide, by rw [hRl]; decide⟩ ⟨rfl, rfl⟩ (n := 1) (by decide +kernel) rfl rfl rfl (lv_room (Nat.le_of_ble_eq_true rfl)) d_m_enter_10 (fun H locs hX hS => ?_)
    refine lz_ifeq hx hb d_m_enter_13 (tgt := 20) (by decide) (fun hc => ?_) (fun hc => ?_)
    · rw [if_neg hc] at h
      exact J20  H locs ls  hX hS (lv_sub hl [0, 1, 2] rfl) h
    · rw [if_pos hc] at h
      refine lv_iconst (v := 0) hx hb d_m_enter_16 (by decide) ?_
      refine lv_goto hx hb d_m_enter_17 (tgt := 21) (by decide) ?_
      exact J21 false H locs ls  hX hS (lv_sub hl [0, 1, 2] rfl) h
abbrev y_m_put : MethodName := ({ cls := "TypeGuardModel", name := "put", desc := "(III)V" } : Jvm.MethodName)
theorem d_m_put_0 : decode prog_14_method_51_code 0 = .ok (.aload_n 0, 1) := by decide +kernel
theorem d_m_put_1 : decode prog_14_method_51_code 1 = .ok (.iload_n 1, 1) := by decide +kernel
theorem d_m_put_2 : decode prog_14_method_51_code 2 = .ok (.invokestatic 306, 3) := by decide +kernel
theorem d_m_put_5 : decode prog_14_method_51_code 5 = .ok (.ifCond .eq 23, 3) := by decide +kernel
theorem d_m_put_8 : decode prog_14_method_51_code 8 = .ok (.aload_n 0, 1) := by decide +kernel
theorem d_m_put_9 : decode prog_14_method_51_code 9 = .ok (.iload_n 2, 1) := by decide +kernel
theorem d_m_put_10 : decode prog_14_method_51_code 10 = .ok (.invokevirtual 293, 3) := by decide +kernel
theorem d_m_put_13 : decode prog_14_method_51_code 13 = .ok (.ifCond .eq 15, 3) := by decide +kernel
theorem d_m_put_16 : decode prog_14_method_51_code 16 = .ok (.aload_n 0, 1) := by decide +kernel
theorem d_m_put_17 : decode prog_14_method_51_code 17 = .ok (.iload_n 3, 1) := by decide +kernel
theorem d_m_put_18 : decode prog_14_method_51_code 18 = .ok (.invokevirtual 296, 3) := by decide +kernel
theorem d_m_put_21 : decode prog_14_method_51_code 21 = .ok (.ifCond .eq 7, 3) := by decide +kernel
theorem d_m_put_24 : decode prog_14_method_51_code 24 = .ok (.iconst 0, 1) := by decide +kernel
theorem d_m_put_25 : decode prog_14_method_51_code 25 = .ok (.goto 4, 3) := by decide +kernel
theorem d_m_put_28 : decode prog_14_method_51_code 28 = .ok (.iconst 1, 1) := by decide +kernel
theorem d_m_put_29 : decode prog_14_method_51_code 29 = .ok (.putfield 106, 3) := by decide +kernel
theorem d_m_put_32 : decode prog_14_method_51_code 32 = .ok (.aload_n 0, 1) := by decide +kernel
theorem d_m_put_33 : decode prog_14_method_51_code 33 = .ok (.getfield 106, 3) := by decide +kernel
theorem d_m_put_36 : decode prog_14_method_51_code 36 = .ok (.ifCond .le 4, 3) := by decide +kernel
theorem d_m_put_39 : decode prog_14_method_51_code 39 = .ok (.return_, 1) := by decide +kernel
theorem d_m_put_40 : decode prog_14_method_51_code 40 = .ok (.aload_n 0, 1) := by decide +kernel
theorem d_m_put_41 : decode prog_14_method_51_code 41 = .ok (.getfield 85, 3) := by decide +kernel
theorem d_m_put_44 : decode prog_14_method_51_code 44 = .ok (.iload_n 1, 1) := by decide +kernel
theorem d_m_put_45 : decode prog_14_method_51_code 45 = .ok (.aload_n 0, 1) := by decide +kernel
theorem d_m_put_46 : decode prog_14_method_51_code 46 = .ok (.getfield 20, 3) := by decide +kernel
theorem d_m_put_49 : decode prog_14_method_51_code 49 = .ok (.bipush 12, 2) := by decide +kernel
theorem d_m_put_51 : decode prog_14_method_51_code 51 = .ok (.aload_n 0, 1) := by decide +kernel
theorem d_m_put_52 : decode prog_14_method_51_code 52 = .ok (.getfield 154, 3) := by decide +kernel
theorem d_m_put_55 : decode prog_14_method_51_code 55 = .ok (.imul, 1) := by decide +kernel
theorem d_m_put_56 : decode prog_14_method_51_code 56 = .ok (.iload_n 2, 1) := by decide +kernel
theorem d_m_put_57 : decode prog_14_method_51_code 57 = .ok (.iadd, 1) := by decide +kernel
theorem d_m_put_58 : decode prog_14_method_51_code 58 = .ok (.laload, 1) := by decide +kernel
theorem d_m_put_59 : decode prog_14_method_51_code 59 = .ok (.lastore, 1) := by decide +kernel
theorem d_m_put_60 : decode prog_14_method_51_code 60 = .ok (.aload_n 0, 1) := by decide +kernel
theorem d_m_put_61 : decode prog_14_method_51_code 61 = .ok (.getfield 88, 3) := by decide +kernel
theorem d_m_put_64 : decode prog_14_method_51_code 64 = .ok (.iload_n 1, 1) := by decide +kernel
theorem d_m_put_65 : decode prog_14_method_51_code 65 = .ok (.aload_n 0, 1) := by decide +kernel
theorem d_m_put_66 : decode prog_14_method_51_code 66 = .ok (.getfield 27, 3) := by decide +kernel
theorem d_m_put_69 : decode prog_14_method_51_code 69 = .ok (.iconst 4, 1) := by decide +kernel
theorem d_m_put_70 : decode prog_14_method_51_code 70 = .ok (.aload_n 0, 1) := by decide +kernel
theorem d_m_put_71 : decode prog_14_method_51_code 71 = .ok (.getfield 154, 3) := by decide +kernel
theorem d_m_put_74 : decode prog_14_method_51_code 74 = .ok (.imul, 1) := by decide +kernel
theorem d_m_put_75 : decode prog_14_method_51_code 75 = .ok (.iload_n 3, 1) := by decide +kernel
theorem d_m_put_76 : decode prog_14_method_51_code 76 = .ok (.iadd, 1) := by decide +kernel
theorem d_m_put_77 : decode prog_14_method_51_code 77 = .ok (.laload, 1) := by decide +kernel
theorem d_m_put_78 : decode prog_14_method_51_code 78 = .ok (.lastore, 1) := by decide +kernel
theorem d_m_put_79 : decode prog_14_method_51_code 79 = .ok (.return_, 1) := by decide +kernel
def m_put_J29 (v1_29 : Int32) (v2_29 : Int32) (v3_29 : Int32) (s0_29 : Bool) (S_29 : MS) : Option MS := (bd (pI S_29 0 0 (bI s0_29)) fun S29 => (if (gI S29 0 0) ≤ 0 then (if inbd ((12 * (gI S29 0 12)) + v2_29) 24 = true then (if inbd v1_29 10 = true then (bd (pL S29 24 (txN v1_29) (gL S29 3 (txN ((12 * (gI S29 0 12)) + v2_29)))) fun S59 => (if inbd ((4 * (gI S59 0 12)) + v3_29) 8 = true then (if inbd v1_29 10 = true then (bd (pL S59 25 (txN v1_29) (gL S59 5 (txN ((4 * (gI S59 0 12)) + v3_29)))) fun S78 => some S78) else none) else none)) else none) else none) else some S29))
def m_put_J28 (v1_28 : Int32) (v2_28 : Int32) (v3_28 : Int32) (S_28 : MS) : Option MS := m_put_J29 v1_28 v2_28 v3_28 true S_28
def m_put (x1 : Int32) (x2 : Int32) (x3 : Int32) (S : MS) : Option MS := ((m_isObject x1).bind fun q2 => (if q2 = true then ((m_isType x2 S).bind fun q10 => (if q10 = true then ((m_isClass x3 S).bind fun q18 => (if q18 = true then m_put_J29 x1 x2 x3 false S else m_put_J28 x1 x2 x3 S)) else m_put_J28 x1 x2 x3 S)) else m_put_J28 x1 x2 x3 S))
set_option maxHeartbeats 4000000 in
set_option maxRecDepth 100000 in
theorem M_m_put {l : Launch} {D : va_G} {cA : Nat → ClassId} {b : Nat} {ad : Nat → Nat} {x1 : Int32} {x2 : Int32} {x3 : Int32} {S : MS} {T : CS} {o : Nat → Int64} {rr : MS}  (h : m_put x1 x2 x3 S = some rr) : Met l y_m_put (Cond.code y_m_put prog_14_method_51_code 4 (Option.none : Option Jvm.ClassFile.FieldType) :: TW) { frames := 1, cells := 0, slots := 0, locals := 21 } (va_Pc [.ref (b + 262), .int x1, .int x2, .int x3] (Rp D cA b ad (T, S, o))) (Qr D cA b ad (T, rr, o) none) 0 0 (Ab b) := by
  refine Ct_of (by decide) (Nat.le_of_ble_eq_true rfl) ?_
  intro p e R s m args below meth c ls Q H locs hR hQ hx hb hts hown hml hr hlk hC hX hS hl
  have hRf : R.frames = 1 := by rw [hR]
  have hRl : R.locals = 21 := by rw [hR]
  have hown : s.vm.findClass "TypeGuardModel" = some m.cls := hown
  have hl : lv_has ls 4 [(0, .ref (b + 262)), (1, .int x1), (2, .int x2), (3, .int x3)] := hl
  rw [m_put] at h
  refine lv_aload_n hx hb d_m_put_0 rfl (lv_at hl 0 rfl) ?_
  refine lv_iload_n hx hb d_m_put_1 rfl (lv_at hl 1 rfl) ?_
  obtain ⟨q2, hc2, h⟩ := Option.bind_eq_some_iff.mp h
  refine ck_S (As := [.int x1]) (rest := [.ref (b + 262)]) (st1 := [.int (bI q2), .ref (b + 262)]) (M_m_isObject  hc2) t_1339 t_1340 t_1341 t_13 hx hb hts hown hC hX hS  hml hl.1 ⟨by rw [hRf]; decide, by rw [hRl]; decide⟩ ⟨rfl, rfl⟩ (n := 1) (by decide +kernel) rfl rfl rfl (lv_room (Nat.le_of_ble_eq_true rfl)) d_m_put_2 (fun H locs hX hS => ?_)
  have J29 : ∀ (s0_29 : Bool) (H : Heap) (locs : List Loc) (ls : Array Slot), hp D cA b ad (T, S, o) H → va_S (Ab b) s.heap H locs → lv_has ls 4 [(0, .ref (b + 262)), (1, .int x1), (2, .int x2), (3, .int x3)] → m_put_J29 x1 x2 x3 s0_29 S = some rr → W p l e R s m args below meth c H locs 0 0 Q (F0 m 29 ls [.int (bI s0_29), .ref (b + 262)]) := by
    intro s0_29 H locs ls  hX hS hl h
    rw [m_put_J29] at h
    refine m_put_0_0 (v := (bI s0_29)) hx hb hts hown hC hX hS (by rfl) (hts _ t_987) d_m_put_29 (fun H locs hX hS => ?_)
    obtain ⟨S29, e29, h⟩ := bd_some h
    rw [← e29] at hX
    refine lv_aload_n hx hb d_m_put_32 rfl (lv_at hl 0 rfl) ?_
    refine m_get_0_0 hx hb hts hown hC hX (by rfl) (hts _ t_987) d_m_put_33 ?_
    refine lv_if_le hx hb d_m_put_36 (tgt := 40) (by decide) (fun hc => ?_) (fun hc => ?_)
    · rw [if_pos hc] at h
      refine lv_aload_n hx hb d_m_put_40 rfl (lv_at hl 0 rfl) ?_
      refine m_get_0_36 hx hb hts hown hC hX (by rfl) (hts _ t_1023) d_m_put_41 ?_
      refine lv_iload_n hx hb d_m_put_44 rfl (lv_at hl 1 rfl) ?_
      refine lv_aload_n hx hb d_m_put_45 rfl (lv_at hl 0 rfl) ?_
      refine m_get_0_14 hx hb hts hown hC hX (by rfl) (hts _ t_1001) d_m_put_46 ?_
      refine lv_bipush (v := 12) hx hb d_m_put_49 (by decide) ?_
      refine lv_aload_n hx hb d_m_put_51 rfl (lv_at hl 0 rfl) ?_
      refine m_get_0_12 hx hb hts hown hC hX (by rfl) (hts _ t_999) d_m_put_52 ?_
      refine lv_imul hx hb d_m_put_55 ?_
      refine lv_iload_n hx hb d_m_put_56 rfl (lv_at hl 2 rfl) ?_
      refine lv_iadd hx hb d_m_put_57 ?_
      by_cases hg58 : inbd ((12 * (gI S29 0 12)) + x2) 24 = true
      rotate_left; · rw [if_neg hg58] at h; cases h
      rw [if_pos hg58] at h
      refine m_ald_2 (k := 3) hx hb hC hX (by rfl) hg58 d_m_put_58 ?_
      by_cases hg59 : inbd x1 10 = true
      rotate_left; · rw [if_neg hg59] at h; cases h
      rw [if_pos hg59] at h
      refine m_ast_2 (k := 24) (v := (gL S29 3 (txN ((12 * (gI S29 0 12)) + x2)))) hx hb hC hX hS (by rfl) hg59 d_m_put_59 (fun H locs hX hS => ?_)
      obtain ⟨S59, e59, h⟩ := bd_some h
      rw [← e59] at hX
      refine lv_aload_n hx hb d_m_put_60 rfl (lv_at hl 0 rfl) ?_
      refine m_get_0_37 hx hb hts hown hC hX (by rfl) (hts _ t_1024) d_m_put_61 ?_
      refine lv_iload_n hx hb d_m_put_64 rfl (lv_at hl 1 rfl) ?_
      refine lv_aload_n hx hb d_m_put_65 rfl (lv_at hl 0 rfl) ?_
      refine m_get_0_16 hx hb hts hown hC hX (by rfl) (hts _ t_1003) d_m_put_66 ?_
      refine lv_iconst (v := 4) hx hb d_m_put_69 (by decide) ?_
      refine lv_aload_n hx hb d_m_put_70 rfl (lv_at hl 0 rfl) ?_
      refine m_get_0_12 hx hb hts hown hC hX (by rfl) (hts _ t_999) d_m_put_71 ?_
      refine lv_imul hx hb d_m_put_74 ?_
      refine lv_iload_n hx hb d_m_put_75 rfl (lv_at hl 3 rfl) ?_
      refine lv_iadd hx hb d_m_put_76 ?_
      by_cases hg77 : inbd ((4 * (gI S59 0 12)) + x3) 8 = true
      rotate_left; · rw [if_neg hg77] at h; cases h
      rw [if_pos hg77] at h
      refine m_ald_2 (k := 5) hx hb hC hX (by rfl) hg77 d_m_put_77 ?_
      by_cases hg78 : inbd x1 10 = true
      rotate_left; · rw [if_neg hg78] at h; cases h
      rw [if_pos hg78] at h
      refine m_ast_2 (k := 25) (v := (gL S59 5 (txN ((4 * (gI S59 0 12)) + x3)))) hx hb hC hX hS (by rfl) hg78 d_m_put_78 (fun H locs hX hS => ?_)
      obtain ⟨S78, e78, h⟩ := bd_some h
      rw [← e78] at hX
      obtain rfl := Option.some.inj h
      exact rt_v hQ hx hb hr hX hS hlk d_m_put_79
    · rw [if_neg hc] at h
      obtain rfl := Option.some.inj h
      exact rt_v hQ hx hb hr hX hS hlk d_m_put_39
  have J28 : ∀  (H : Heap) (locs : List Loc) (ls : Array Slot), hp D cA b ad (T, S, o) H → va_S (Ab b) s.heap H locs → lv_has ls 4 [(0, .ref (b + 262)), (1, .int x1), (2, .int x2), (3, .int x3)] → m_put_J28 x1 x2 x3 S = some rr → W p l e R s m args below meth c H locs 0 0 Q (F0 m 28 ls [.ref (b + 262)]) := by
    intro  H locs ls  hX hS hl h
    rw [m_put_J28] at h
    refine lv_iconst (v := 1) hx hb d_m_put_28 (by decide) ?_
    exact J29 true H locs ls  hX hS (lv_sub hl [0, 1, 2, 3] rfl) h
  refine lz_ifeq hx hb d_m_put_5 (tgt := 28) (by decide) (fun hc => ?_) (fun hc => ?_)
  · rw [if_neg hc] at h
    exact J28  H locs ls  hX hS (lv_sub hl [0, 1, 2, 3] rfl) h
  · rw [if_pos hc] at h
    refine lv_aload_n hx hb d_m_put_8 rfl (lv_at hl 0 rfl) ?_
    refine lv_iload_n hx hb d_m_put_9 rfl (lv_at hl 2 rfl) ?_
    obtain ⟨q10, hc10, h⟩ := Option.bind_eq_some_iff.mp h
    refine ck_V (As := [.int x2]) (rest := [.ref (b + 262)]) (st1 := [.int (bI q10), .ref (b + 262)]) (M_m_isType  hc10) t_1308 t_1310 p_67 t_1311 t_13 hx hb hts hown hC hX hS (hrc_m0 hC hX (by rfl)) hml hl.1 ⟨by rw [hRf]; decide, by rw [hRl]; decide⟩ ⟨rfl, rfl⟩ (n := 1) (by decide +kernel) rfl rfl rfl (lv_room (Nat.le_of_ble_eq_true rfl)) d_m_put_10 (fun H locs hX hS => ?_)
    refine lz_ifeq hx hb d_m_put_13 (tgt := 28) (by decide) (fun hc => ?_) (fun hc => ?_)
    · rw [if_neg hc] at h
      exact J28  H locs ls  hX hS (lv_sub hl [0, 1, 2, 3] rfl) h
    · rw [if_pos hc] at h
      refine lv_aload_n hx hb d_m_put_16 rfl (lv_at hl 0 rfl) ?_
      refine lv_iload_n hx hb d_m_put_17 rfl (lv_at hl 3 rfl) ?_
      obtain ⟨q18, hc18, h⟩ := Option.bind_eq_some_iff.mp h
      refine ck_V (As := [.int x3]) (rest := [.ref (b + 262)]) (st1 := [.int (bI q18), .ref (b + 262)]) (M_m_isClass  hc18) t_1312 t_1314 p_68 t_1315 t_13 hx hb hts hown hC hX hS (hrc_m0 hC hX (by rfl)) hml hl.1 ⟨by rw [hRf]; decide, by rw [hRl]; decide⟩ ⟨rfl, rfl⟩ (n := 1) (by decide +kernel) rfl rfl rfl (lv_room (Nat.le_of_ble_eq_true rfl)) d_m_put_18 (fun H locs hX hS => ?_)
      refine lz_ifeq hx hb d_m_put_21 (tgt := 28) (by decide) (fun hc => ?_) (fun hc => ?_)
      · rw [if_neg hc] at h
        exact J28  H locs ls  hX hS (lv_sub hl [0, 1, 2, 3] rfl) h
      · rw [if_pos hc] at h
        refine lv_iconst (v := 0) hx hb d_m_put_24 (by decide) ?_
        refine lv_goto hx hb d_m_put_25 (tgt := 29) (by decide) ?_
        exact J29 false H locs ls  hX hS (lv_sub hl [0, 1, 2, 3] rfl) h
abbrev y_m_processType : MethodName := ({ cls := "TypeGuardModel", name := "processType", desc := "(I)I" } : Jvm.MethodName)
theorem d_m_processType_0 : decode prog_14_method_52_code 0 = .ok (.aload_n 0, 1) := by decide +kernel
theorem d_m_processType_1 : decode prog_14_method_52_code 1 = .ok (.getfield 82, 3) := by decide +kernel
theorem d_m_processType_4 : decode prog_14_method_52_code 4 = .ok (.iload_n 1, 1) := by decide +kernel
theorem d_m_processType_5 : decode prog_14_method_52_code 5 = .ok (.laload, 1) := by decide +kernel
theorem d_m_processType_6 : decode prog_14_method_52_code 6 = .ok (.lconst 0, 1) := by decide +kernel
theorem d_m_processType_7 : decode prog_14_method_52_code 7 = .ok (.lcmp, 1) := by decide +kernel
theorem d_m_processType_8 : decode prog_14_method_52_code 8 = .ok (.ifCond .ne 7, 3) := by decide +kernel
theorem d_m_processType_11 : decode prog_14_method_52_code 11 = .ok (.iconst (-1), 1) := by decide +kernel
theorem d_m_processType_12 : decode prog_14_method_52_code 12 = .ok (.goto 17, 3) := by decide +kernel
theorem d_m_processType_15 : decode prog_14_method_52_code 15 = .ok (.aload_n 0, 1) := by decide +kernel
theorem d_m_processType_16 : decode prog_14_method_52_code 16 = .ok (.aload_n 0, 1) := by decide +kernel
theorem d_m_processType_17 : decode prog_14_method_52_code 17 = .ok (.getfield 154, 3) := by decide +kernel
theorem d_m_processType_20 : decode prog_14_method_52_code 20 = .ok (.aload_n 0, 1) := by decide +kernel
theorem d_m_processType_21 : decode prog_14_method_52_code 21 = .ok (.getfield 82, 3) := by decide +kernel
theorem d_m_processType_24 : decode prog_14_method_52_code 24 = .ok (.iload_n 1, 1) := by decide +kernel
theorem d_m_processType_25 : decode prog_14_method_52_code 25 = .ok (.laload, 1) := by decide +kernel
theorem d_m_processType_26 : decode prog_14_method_52_code 26 = .ok (.invokevirtual 201, 3) := by decide +kernel
theorem d_m_processType_29 : decode prog_14_method_52_code 29 = .ok (.ireturn, 1) := by decide +kernel
def m_processType (x1 : Int32) (S : MS) : Option Int32 := (if inbd x1 6 = true then (if (gL S 23 (txN x1)) = 0 then some (-1) else (if inbd x1 6 = true then ((m_typeOf (gI S 0 12) (gL S 23 (txN x1)) S).bind fun q26 => some q26) else none)) else none)
set_option maxHeartbeats 4000000 in
set_option maxRecDepth 100000 in
theorem M_m_processType {l : Launch} {D : va_G} {cA : Nat → ClassId} {b : Nat} {ad : Nat → Nat} {x1 : Int32} {S : MS} {T : CS} {o : Nat → Int64} {rr : Int32}  (h : m_processType x1 S = some rr) : Met l y_m_processType (Cond.code y_m_processType prog_14_method_52_code 2 (Option.some Jvm.ClassFile.FieldType.int) :: TW) { frames := 2, cells := 0, slots := 0, locals := 48 } (va_Pc [.ref (b + 262), .int x1] (Rp D cA b ad (T, S, o))) (Qr D cA b ad (T, S, o) (some (.int rr))) 0 0 (Ab b) := by
  refine Ct_of (by decide) (Nat.le_of_ble_eq_true rfl) ?_
  intro p e R s m args below meth c ls Q H locs hR hQ hx hb hts hown hml hr hlk hC hX hS hl
  have hRf : R.frames = 2 := by rw [hR]
  have hRl : R.locals = 48 := by rw [hR]
  have hown : s.vm.findClass "TypeGuardModel" = some m.cls := hown
  have hl : lv_has ls 2 [(0, .ref (b + 262)), (1, .int x1)] := hl
  rw [m_processType] at h
  refine lv_aload_n hx hb d_m_processType_0 rfl (lv_at hl 0 rfl) ?_
  refine m_get_0_35 hx hb hts hown hC hX (by rfl) (hts _ t_1022) d_m_processType_1 ?_
  refine lv_iload_n hx hb d_m_processType_4 rfl (lv_at hl 1 rfl) ?_
  by_cases hg5 : inbd x1 6 = true
  rotate_left; · rw [if_neg hg5] at h; cases h
  rw [if_pos hg5] at h
  refine m_ald_2 (k := 23) hx hb hC hX (by rfl) hg5 d_m_processType_5 ?_
  refine lv_lconst (v := 0) hx hb d_m_processType_6 (by decide) ?_
  refine lx_ifne hx hb d_m_processType_7 d_m_processType_8 (tgt := 15) (by decide) (fun hc => ?_) (fun hc => ?_)
  · rw [if_neg hc] at h
    refine lv_aload_n hx hb d_m_processType_15 rfl (lv_at hl 0 rfl) ?_
    refine lv_aload_n hx hb d_m_processType_16 rfl (lv_at hl 0 rfl) ?_
    refine m_get_0_12 hx hb hts hown hC hX (by rfl) (hts _ t_999) d_m_processType_17 ?_
    refine lv_aload_n hx hb d_m_processType_20 rfl (lv_at hl 0 rfl) ?_
    refine m_get_0_35 hx hb hts hown hC hX (by rfl) (hts _ t_1022) d_m_processType_21 ?_
    refine lv_iload_n hx hb d_m_processType_24 rfl (lv_at hl 1 rfl) ?_
    by_cases hg25 : inbd x1 6 = true
    rotate_left; · rw [if_neg hg25] at h; cases h
    rw [if_pos hg25] at h
    refine m_ald_2 (k := 23) hx hb hC hX (by rfl) hg25 d_m_processType_25 ?_
    obtain ⟨q26, hc26, h⟩ := Option.bind_eq_some_iff.mp h
    refine ck_V (As := [.int (gI S 0 12), .long (gL S 23 (txN x1))]) (rest := []) (st1 := [.int q26]) (M_m_typeOf  hc26) t_1206 t_1208 p_48 t_1209 t_13 hx hb hts hown hC hX hS (hrc_m0 hC hX (by rfl)) hml hl.1 ⟨by rw [hRf]; decide, by rw [hRl]; decide⟩ ⟨rfl, rfl⟩ (n := 2) (by decide +kernel) rfl rfl rfl (lv_room (Nat.le_of_ble_eq_true rfl)) d_m_processType_26 (fun H locs hX hS => ?_)
    obtain rfl := Option.some.inj h
    exact rt_i hQ hx hb hr hX hS hlk d_m_processType_29
  · rw [if_pos hc] at h
    refine lv_iconst (v := (-1)) hx hb d_m_processType_11 (by decide) ?_
    refine lv_goto hx hb d_m_processType_12 (tgt := 29) (by decide) ?_
    obtain rfl := Option.some.inj h
    exact rt_i hQ hx hb hr hX hS hlk d_m_processType_29
abbrev y_m_typeAt : MethodName := ({ cls := "TypeGuardModel", name := "typeAt", desc := "(I)I" } : Jvm.MethodName)
theorem d_m_typeAt_0 : decode prog_14_method_53_code 0 = .ok (.aload_n 0, 1) := by decide +kernel
theorem d_m_typeAt_1 : decode prog_14_method_53_code 1 = .ok (.getfield 85, 3) := by decide +kernel
theorem d_m_typeAt_4 : decode prog_14_method_53_code 4 = .ok (.iload_n 1, 1) := by decide +kernel
theorem d_m_typeAt_5 : decode prog_14_method_53_code 5 = .ok (.laload, 1) := by decide +kernel
theorem d_m_typeAt_6 : decode prog_14_method_53_code 6 = .ok (.lconst 0, 1) := by decide +kernel
theorem d_m_typeAt_7 : decode prog_14_method_53_code 7 = .ok (.lcmp, 1) := by decide +kernel
theorem d_m_typeAt_8 : decode prog_14_method_53_code 8 = .ok (.ifCond .ne 7, 3) := by decide +kernel
theorem d_m_typeAt_11 : decode prog_14_method_53_code 11 = .ok (.iconst (-1), 1) := by decide +kernel
theorem d_m_typeAt_12 : decode prog_14_method_53_code 12 = .ok (.goto 17, 3) := by decide +kernel
theorem d_m_typeAt_15 : decode prog_14_method_53_code 15 = .ok (.aload_n 0, 1) := by decide +kernel
theorem d_m_typeAt_16 : decode prog_14_method_53_code 16 = .ok (.aload_n 0, 1) := by decide +kernel
theorem d_m_typeAt_17 : decode prog_14_method_53_code 17 = .ok (.getfield 154, 3) := by decide +kernel
theorem d_m_typeAt_20 : decode prog_14_method_53_code 20 = .ok (.aload_n 0, 1) := by decide +kernel
theorem d_m_typeAt_21 : decode prog_14_method_53_code 21 = .ok (.getfield 85, 3) := by decide +kernel
theorem d_m_typeAt_24 : decode prog_14_method_53_code 24 = .ok (.iload_n 1, 1) := by decide +kernel
theorem d_m_typeAt_25 : decode prog_14_method_53_code 25 = .ok (.laload, 1) := by decide +kernel
theorem d_m_typeAt_26 : decode prog_14_method_53_code 26 = .ok (.invokevirtual 201, 3) := by decide +kernel
theorem d_m_typeAt_29 : decode prog_14_method_53_code 29 = .ok (.ireturn, 1) := by decide +kernel
def m_typeAt (x1 : Int32) (S : MS) : Option Int32 := (if inbd x1 10 = true then (if (gL S 24 (txN x1)) = 0 then some (-1) else (if inbd x1 10 = true then ((m_typeOf (gI S 0 12) (gL S 24 (txN x1)) S).bind fun q26 => some q26) else none)) else none)
set_option maxHeartbeats 4000000 in
set_option maxRecDepth 100000 in
theorem M_m_typeAt {l : Launch} {D : va_G} {cA : Nat → ClassId} {b : Nat} {ad : Nat → Nat} {x1 : Int32} {S : MS} {T : CS} {o : Nat → Int64} {rr : Int32}  (h : m_typeAt x1 S = some rr) : Met l y_m_typeAt (Cond.code y_m_typeAt prog_14_method_53_code 2 (Option.some Jvm.ClassFile.FieldType.int) :: TW) { frames := 2, cells := 0, slots := 0, locals := 48 } (va_Pc [.ref (b + 262), .int x1] (Rp D cA b ad (T, S, o))) (Qr D cA b ad (T, S, o) (some (.int rr))) 0 0 (Ab b) := by
  refine Ct_of (by decide) (Nat.le_of_ble_eq_true rfl) ?_
  intro p e R s m args below meth c ls Q H locs hR hQ hx hb hts hown hml hr hlk hC hX hS hl
  have hRf : R.frames = 2 := by rw [hR]
  have hRl : R.locals = 48 := by rw [hR]
  have hown : s.vm.findClass "TypeGuardModel" = some m.cls := hown
  have hl : lv_has ls 2 [(0, .ref (b + 262)), (1, .int x1)] := hl
  rw [m_typeAt] at h
  refine lv_aload_n hx hb d_m_typeAt_0 rfl (lv_at hl 0 rfl) ?_
  refine m_get_0_36 hx hb hts hown hC hX (by rfl) (hts _ t_1023) d_m_typeAt_1 ?_
  refine lv_iload_n hx hb d_m_typeAt_4 rfl (lv_at hl 1 rfl) ?_
  by_cases hg5 : inbd x1 10 = true
  rotate_left; · rw [if_neg hg5] at h; cases h
  rw [if_pos hg5] at h
  refine m_ald_2 (k := 24) hx hb hC hX (by rfl) hg5 d_m_typeAt_5 ?_
  refine lv_lconst (v := 0) hx hb d_m_typeAt_6 (by decide) ?_
  refine lx_ifne hx hb d_m_typeAt_7 d_m_typeAt_8 (tgt := 15) (by decide) (fun hc => ?_) (fun hc => ?_)
  · rw [if_neg hc] at h
    refine lv_aload_n hx hb d_m_typeAt_15 rfl (lv_at hl 0 rfl) ?_
    refine lv_aload_n hx hb d_m_typeAt_16 rfl (lv_at hl 0 rfl) ?_
    refine m_get_0_12 hx hb hts hown hC hX (by rfl) (hts _ t_999) d_m_typeAt_17 ?_
    refine lv_aload_n hx hb d_m_typeAt_20 rfl (lv_at hl 0 rfl) ?_
    refine m_get_0_36 hx hb hts hown hC hX (by rfl) (hts _ t_1023) d_m_typeAt_21 ?_
    refine lv_iload_n hx hb d_m_typeAt_24 rfl (lv_at hl 1 rfl) ?_
    by_cases hg25 : inbd x1 10 = true
    rotate_left; · rw [if_neg hg25] at h; cases h
    rw [if_pos hg25] at h
    refine m_ald_2 (k := 24) hx hb hC hX (by rfl) hg25 d_m_typeAt_25 ?_
    obtain ⟨q26, hc26, h⟩ := Option.bind_eq_some_iff.mp h
    refine ck_V (As := [.int (gI S 0 12), .long (gL S 24 (txN x1))]) (rest := []) (st1 := [.int q26]) (M_m_typeOf  hc26) t_1206 t_1208 p_48 t_1209 t_13 hx hb hts hown hC hX hS (hrc_m0 hC hX (by rfl)) hml hl.1 ⟨by rw [hRf]; decide, by rw [hRl]; decide⟩ ⟨rfl, rfl⟩ (n := 2) (by decide +kernel) rfl rfl rfl (lv_room (Nat.le_of_ble_eq_true rfl)) d_m_typeAt_26 (fun H locs hX hS => ?_)
    obtain rfl := Option.some.inj h
    exact rt_i hQ hx hb hr hX hS hlk d_m_typeAt_29
  · rw [if_pos hc] at h
    refine lv_iconst (v := (-1)) hx hb d_m_typeAt_11 (by decide) ?_
    refine lv_goto hx hb d_m_typeAt_12 (tgt := 29) (by decide) ?_
    obtain rfl := Option.some.inj h
    exact rt_i hQ hx hb hr hX hS hlk d_m_typeAt_29
abbrev y_m_classAt : MethodName := ({ cls := "TypeGuardModel", name := "classAt", desc := "(I)I" } : Jvm.MethodName)
theorem d_m_classAt_0 : decode prog_14_method_54_code 0 = .ok (.aload_n 0, 1) := by decide +kernel
theorem d_m_classAt_1 : decode prog_14_method_54_code 1 = .ok (.getfield 88, 3) := by decide +kernel
theorem d_m_classAt_4 : decode prog_14_method_54_code 4 = .ok (.iload_n 1, 1) := by decide +kernel
theorem d_m_classAt_5 : decode prog_14_method_54_code 5 = .ok (.laload, 1) := by decide +kernel
theorem d_m_classAt_6 : decode prog_14_method_54_code 6 = .ok (.lconst 0, 1) := by decide +kernel
theorem d_m_classAt_7 : decode prog_14_method_54_code 7 = .ok (.lcmp, 1) := by decide +kernel
theorem d_m_classAt_8 : decode prog_14_method_54_code 8 = .ok (.ifCond .ne 7, 3) := by decide +kernel
theorem d_m_classAt_11 : decode prog_14_method_54_code 11 = .ok (.iconst (-1), 1) := by decide +kernel
theorem d_m_classAt_12 : decode prog_14_method_54_code 12 = .ok (.goto 17, 3) := by decide +kernel
theorem d_m_classAt_15 : decode prog_14_method_54_code 15 = .ok (.aload_n 0, 1) := by decide +kernel
theorem d_m_classAt_16 : decode prog_14_method_54_code 16 = .ok (.aload_n 0, 1) := by decide +kernel
theorem d_m_classAt_17 : decode prog_14_method_54_code 17 = .ok (.getfield 154, 3) := by decide +kernel
theorem d_m_classAt_20 : decode prog_14_method_54_code 20 = .ok (.aload_n 0, 1) := by decide +kernel
theorem d_m_classAt_21 : decode prog_14_method_54_code 21 = .ok (.getfield 88, 3) := by decide +kernel
theorem d_m_classAt_24 : decode prog_14_method_54_code 24 = .ok (.iload_n 1, 1) := by decide +kernel
theorem d_m_classAt_25 : decode prog_14_method_54_code 25 = .ok (.laload, 1) := by decide +kernel
theorem d_m_classAt_26 : decode prog_14_method_54_code 26 = .ok (.invokevirtual 205, 3) := by decide +kernel
theorem d_m_classAt_29 : decode prog_14_method_54_code 29 = .ok (.ireturn, 1) := by decide +kernel
def m_classAt (x1 : Int32) (S : MS) : Option Int32 := (if inbd x1 10 = true then (if (gL S 25 (txN x1)) = 0 then some (-1) else (if inbd x1 10 = true then ((m_classOf (gI S 0 12) (gL S 25 (txN x1)) S).bind fun q26 => some q26) else none)) else none)
set_option maxHeartbeats 4000000 in
set_option maxRecDepth 100000 in
theorem M_m_classAt {l : Launch} {D : va_G} {cA : Nat → ClassId} {b : Nat} {ad : Nat → Nat} {x1 : Int32} {S : MS} {T : CS} {o : Nat → Int64} {rr : Int32}  (h : m_classAt x1 S = some rr) : Met l y_m_classAt (Cond.code y_m_classAt prog_14_method_54_code 2 (Option.some Jvm.ClassFile.FieldType.int) :: TW) { frames := 2, cells := 0, slots := 0, locals := 48 } (va_Pc [.ref (b + 262), .int x1] (Rp D cA b ad (T, S, o))) (Qr D cA b ad (T, S, o) (some (.int rr))) 0 0 (Ab b) := by
  refine Ct_of (by decide) (Nat.le_of_ble_eq_true rfl) ?_
  intro p e R s m args below meth c ls Q H locs hR hQ hx hb hts hown hml hr hlk hC hX hS hl
  have hRf : R.frames = 2 := by rw [hR]
  have hRl : R.locals = 48 := by rw [hR]
  have hown : s.vm.findClass "TypeGuardModel" = some m.cls := hown
  have hl : lv_has ls 2 [(0, .ref (b + 262)), (1, .int x1)] := hl
  rw [m_classAt] at h
  refine lv_aload_n hx hb d_m_classAt_0 rfl (lv_at hl 0 rfl) ?_
  refine m_get_0_37 hx hb hts hown hC hX (by rfl) (hts _ t_1024) d_m_classAt_1 ?_
  refine lv_iload_n hx hb d_m_classAt_4 rfl (lv_at hl 1 rfl) ?_
  by_cases hg5 : inbd x1 10 = true
  rotate_left; · rw [if_neg hg5] at h; cases h
  rw [if_pos hg5] at h
  refine m_ald_2 (k := 25) hx hb hC hX (by rfl) hg5 d_m_classAt_5 ?_
  refine lv_lconst (v := 0) hx hb d_m_classAt_6 (by decide) ?_
  refine lx_ifne hx hb d_m_classAt_7 d_m_classAt_8 (tgt := 15) (by decide) (fun hc => ?_) (fun hc => ?_)
  · rw [if_neg hc] at h
    refine lv_aload_n hx hb d_m_classAt_15 rfl (lv_at hl 0 rfl) ?_
    refine lv_aload_n hx hb d_m_classAt_16 rfl (lv_at hl 0 rfl) ?_
    refine m_get_0_12 hx hb hts hown hC hX (by rfl) (hts _ t_999) d_m_classAt_17 ?_
    refine lv_aload_n hx hb d_m_classAt_20 rfl (lv_at hl 0 rfl) ?_
    refine m_get_0_37 hx hb hts hown hC hX (by rfl) (hts _ t_1024) d_m_classAt_21 ?_
    refine lv_iload_n hx hb d_m_classAt_24 rfl (lv_at hl 1 rfl) ?_
    by_cases hg25 : inbd x1 10 = true
    rotate_left; · rw [if_neg hg25] at h; cases h
    rw [if_pos hg25] at h
    refine m_ald_2 (k := 25) hx hb hC hX (by rfl) hg25 d_m_classAt_25 ?_
    obtain ⟨q26, hc26, h⟩ := Option.bind_eq_some_iff.mp h
    refine ck_V (As := [.int (gI S 0 12), .long (gL S 25 (txN x1))]) (rest := []) (st1 := [.int q26]) (M_m_classOf  hc26) t_1222 t_1224 p_51 t_1225 t_13 hx hb hts hown hC hX hS (hrc_m0 hC hX (by rfl)) hml hl.1 ⟨by rw [hRf]; decide, by rw [hRl]; decide⟩ ⟨rfl, rfl⟩ (n := 2) (by decide +kernel) rfl rfl rfl (lv_room (Nat.le_of_ble_eq_true rfl)) d_m_classAt_26 (fun H locs hX hS => ?_)
    obtain rfl := Option.some.inj h
    exact rt_i hQ hx hb hr hX hS hlk d_m_classAt_29
  · rw [if_pos hc] at h
    refine lv_iconst (v := (-1)) hx hb d_m_classAt_11 (by decide) ?_
    refine lv_goto hx hb d_m_classAt_12 (tgt := 29) (by decide) ?_
    obtain rfl := Option.some.inj h
    exact rt_i hQ hx hb hr hX hS hlk d_m_classAt_29
abbrev y_m_label : MethodName := ({ cls := "TypeGuardModel", name := "label", desc := "(II)I" } : Jvm.MethodName)
theorem d_m_label_0 : decode prog_14_method_55_code 0 = .ok (.aload_n 0, 1) := by decide +kernel
theorem d_m_label_1 : decode prog_14_method_55_code 1 = .ok (.iconst 0, 1) := by decide +kernel
theorem d_m_label_2 : decode prog_14_method_55_code 2 = .ok (.putfield 106, 3) := by decide +kernel
theorem d_m_label_5 : decode prog_14_method_55_code 5 = .ok (.iload_n 1, 1) := by decide +kernel
theorem d_m_label_6 : decode prog_14_method_55_code 6 = .ok (.ifCond .ne 20, 3) := by decide +kernel
theorem d_m_label_9 : decode prog_14_method_55_code 9 = .ok (.iload_n 2, 1) := by decide +kernel
theorem d_m_label_10 : decode prog_14_method_55_code 10 = .ok (.invokestatic 303, 3) := by decide +kernel
theorem d_m_label_13 : decode prog_14_method_55_code 13 = .ok (.ifCond .eq 11, 3) := by decide +kernel
theorem d_m_label_16 : decode prog_14_method_55_code 16 = .ok (.aload_n 0, 1) := by decide +kernel
theorem d_m_label_17 : decode prog_14_method_55_code 17 = .ok (.iload_n 2, 1) := by decide +kernel
theorem d_m_label_18 : decode prog_14_method_55_code 18 = .ok (.invokevirtual 309, 3) := by decide +kernel
theorem d_m_label_21 : decode prog_14_method_55_code 21 = .ok (.goto 4, 3) := by decide +kernel
theorem d_m_label_24 : decode prog_14_method_55_code 24 = .ok (.iconst (-1), 1) := by decide +kernel
theorem d_m_label_25 : decode prog_14_method_55_code 25 = .ok (.ireturn, 1) := by decide +kernel
theorem d_m_label_26 : decode prog_14_method_55_code 26 = .ok (.iload_n 1, 1) := by decide +kernel
theorem d_m_label_27 : decode prog_14_method_55_code 27 = .ok (.iconst 1, 1) := by decide +kernel
theorem d_m_label_28 : decode prog_14_method_55_code 28 = .ok (.if_icmp .eq 8, 3) := by decide +kernel
theorem d_m_label_31 : decode prog_14_method_55_code 31 = .ok (.iload_n 1, 1) := by decide +kernel
theorem d_m_label_32 : decode prog_14_method_55_code 32 = .ok (.iconst 2, 1) := by decide +kernel
theorem d_m_label_33 : decode prog_14_method_55_code 33 = .ok (.if_icmp .ne 14, 3) := by decide +kernel
theorem d_m_label_36 : decode prog_14_method_55_code 36 = .ok (.iload_n 2, 1) := by decide +kernel
theorem d_m_label_37 : decode prog_14_method_55_code 37 = .ok (.invokestatic 306, 3) := by decide +kernel
theorem d_m_label_40 : decode prog_14_method_55_code 40 = .ok (.ifCond .eq 7, 3) := by decide +kernel
theorem d_m_label_43 : decode prog_14_method_55_code 43 = .ok (.iconst 1, 1) := by decide +kernel
theorem d_m_label_44 : decode prog_14_method_55_code 44 = .ok (.goto 4, 3) := by decide +kernel
theorem d_m_label_47 : decode prog_14_method_55_code 47 = .ok (.iconst 0, 1) := by decide +kernel
theorem d_m_label_48 : decode prog_14_method_55_code 48 = .ok (.istore_n 3, 1) := by decide +kernel
theorem d_m_label_49 : decode prog_14_method_55_code 49 = .ok (.iload_n 3, 1) := by decide +kernel
theorem d_m_label_50 : decode prog_14_method_55_code 50 = .ok (.ifCond .ne 7, 3) := by decide +kernel
theorem d_m_label_53 : decode prog_14_method_55_code 53 = .ok (.iconst (-1), 1) := by decide +kernel
theorem d_m_label_54 : decode prog_14_method_55_code 54 = .ok (.goto 21, 3) := by decide +kernel
theorem d_m_label_57 : decode prog_14_method_55_code 57 = .ok (.iload_n 1, 1) := by decide +kernel
theorem d_m_label_58 : decode prog_14_method_55_code 58 = .ok (.iconst 1, 1) := by decide +kernel
theorem d_m_label_59 : decode prog_14_method_55_code 59 = .ok (.if_icmp .ne 11, 3) := by decide +kernel
theorem d_m_label_62 : decode prog_14_method_55_code 62 = .ok (.aload_n 0, 1) := by decide +kernel
theorem d_m_label_63 : decode prog_14_method_55_code 63 = .ok (.iload_n 2, 1) := by decide +kernel
theorem d_m_label_64 : decode prog_14_method_55_code 64 = .ok (.invokevirtual 313, 3) := by decide +kernel
theorem d_m_label_67 : decode prog_14_method_55_code 67 = .ok (.goto 8, 3) := by decide +kernel
theorem d_m_label_70 : decode prog_14_method_55_code 70 = .ok (.aload_n 0, 1) := by decide +kernel
theorem d_m_label_71 : decode prog_14_method_55_code 71 = .ok (.iload_n 2, 1) := by decide +kernel
theorem d_m_label_72 : decode prog_14_method_55_code 72 = .ok (.invokevirtual 316, 3) := by decide +kernel
theorem d_m_label_75 : decode prog_14_method_55_code 75 = .ok (.ireturn, 1) := by decide +kernel
def m_label_J48 (v1_48 : Int32) (v2_48 : Int32) (s0_48 : Bool) (S_48 : MS) : Option (MS × Int32) := (if s0_48 = true then (if v1_48 = 1 then ((m_typeAt v2_48 S_48).bind fun q64 => some (S_48, q64)) else ((m_classAt v2_48 S_48).bind fun q72 => some (S_48, q72))) else some (S_48, (-1)))
def m_label_J47 (v1_47 : Int32) (v2_47 : Int32) (S_47 : MS) : Option (MS × Int32) := m_label_J48 v1_47 v2_47 false S_47
def m_label_J36 (v1_36 : Int32) (v2_36 : Int32) (S_36 : MS) : Option (MS × Int32) := ((m_isObject v2_36).bind fun q37 => (if q37 = true then m_label_J48 v1_36 v2_36 true S_36 else m_label_J47 v1_36 v2_36 S_36))
def m_label (x1 : Int32) (x2 : Int32) (S : MS) : Option (MS × Int32) := (bd (pI S 0 0 0) fun S2 => (if x1 = 0 then ((m_isProcess x2).bind fun q10 => (if q10 = true then ((m_processType x2 S2).bind fun q18 => some (S2, q18)) else some (S2, (-1)))) else (if x1 = 1 then m_label_J36 x1 x2 S2 else (if x1 = 2 then m_label_J36 x1 x2 S2 else m_label_J47 x1 x2 S2))))
set_option maxHeartbeats 4000000 in
set_option maxRecDepth 100000 in
theorem M_m_label {l : Launch} {D : va_G} {cA : Nat → ClassId} {b : Nat} {ad : Nat → Nat} {x1 : Int32} {x2 : Int32} {S : MS} {T : CS} {o : Nat → Int64} {rr : (MS × Int32)}  (h : m_label x1 x2 S = some rr) : Met l y_m_label (Cond.code y_m_label prog_14_method_55_code 4 (Option.some Jvm.ClassFile.FieldType.int) :: TW) { frames := 3, cells := 0, slots := 0, locals := 69 } (va_Pc [.ref (b + 262), .int x1, .int x2] (Rp D cA b ad (T, S, o))) (Qr D cA b ad (T, rr.1, o) (some (.int rr.2))) 0 0 (Ab b) := by
  refine Ct_of (by decide) (Nat.le_of_ble_eq_true rfl) ?_
  intro p e R s m args below meth c ls Q H locs hR hQ hx hb hts hown hml hr hlk hC hX hS hl
  have hRf : R.frames = 3 := by rw [hR]
  have hRl : R.locals = 69 := by rw [hR]
  have hown : s.vm.findClass "TypeGuardModel" = some m.cls := hown
  have hl : lv_has ls 4 [(0, .ref (b + 262)), (1, .int x1), (2, .int x2)] := hl
  rw [m_label] at h
  refine lv_aload_n hx hb d_m_label_0 rfl (lv_at hl 0 rfl) ?_
  refine lv_iconst (v := 0) hx hb d_m_label_1 (by decide) ?_
  refine m_put_0_0 (v := 0) hx hb hts hown hC hX hS (by rfl) (hts _ t_987) d_m_label_2 (fun H locs hX hS => ?_)
  obtain ⟨S2, e2, h⟩ := bd_some h
  rw [← e2] at hX
  refine lv_iload_n hx hb d_m_label_5 rfl (lv_at hl 1 rfl) ?_
  refine lv_if_ne hx hb d_m_label_6 (tgt := 26) (by decide) (fun hc => ?_) (fun hc => ?_)
  · rw [if_neg hc] at h
    refine lv_iload_n hx hb d_m_label_26 rfl (lv_at hl 1 rfl) ?_
    refine lv_iconst (v := 1) hx hb d_m_label_27 (by decide) ?_
    have J48 : ∀ (s0_48 : Bool) (H : Heap) (locs : List Loc) (ls : Array Slot), hp D cA b ad (T, S2, o) H → va_S (Ab b) s.heap H locs → lv_has ls 4 [(0, .ref (b + 262)), (1, .int x1), (2, .int x2)] → m_label_J48 x1 x2 s0_48 S2 = some rr → W p l e R s m args below meth c H locs 0 0 Q (F0 m 48 ls [.int (bI s0_48)]) := by
      intro s0_48 H locs ls  hX hS hl h
      rw [m_label_J48] at h
      refine lv_istore_n (lv' := [(3, .int (bI s0_48)), (0, .ref (b + 262)), (1, .int x1), (2, .int x2)]) hx hb d_m_label_48 rfl hl (by decide) rfl (fun ls hl => ?_)
      refine lv_iload_n hx hb d_m_label_49 rfl (lv_at hl 0 rfl) ?_
      refine lz_ifne hx hb d_m_label_50 (tgt := 57) (by decide) (fun hc => ?_) (fun hc => ?_)
      · rw [if_pos hc] at h
        refine lv_iload_n hx hb d_m_label_57 rfl (lv_at hl 2 rfl) ?_
        refine lv_iconst (v := 1) hx hb d_m_label_58 (by decide) ?_
        refine lv_icmp_ne hx hb d_m_label_59 (tgt := 70) (by decide) (fun hc => ?_) (fun hc => ?_)
        · rw [if_neg hc] at h
          refine lv_aload_n hx hb d_m_label_70 rfl (lv_at hl 1 rfl) ?_
          refine lv_iload_n hx hb d_m_label_71 rfl (lv_at hl 3 rfl) ?_
          obtain ⟨q72, hc72, h⟩ := Option.bind_eq_some_iff.mp h
          refine ck_V (As := [.int x2]) (rest := []) (st1 := [.int q72]) (M_m_classAt  hc72) t_1354 t_1356 p_73 t_1357 t_13 hx hb hts hown hC hX hS (hrc_m0 hC hX (by rfl)) hml hl.1 ⟨by rw [hRf]; decide, by rw [hRl]; decide⟩ ⟨rfl, rfl⟩ (n := 1) (by decide +kernel) rfl rfl rfl (lv_room (Nat.le_of_ble_eq_true rfl)) d_m_label_72 (fun H locs hX hS => ?_)
          obtain rfl := Option.some.inj h
          exact rt_i hQ hx hb hr hX hS hlk d_m_label_75
        · rw [if_pos hc] at h
          refine lv_aload_n hx hb d_m_label_62 rfl (lv_at hl 1 rfl) ?_
          refine lv_iload_n hx hb d_m_label_63 rfl (lv_at hl 3 rfl) ?_
          obtain ⟨q64, hc64, h⟩ := Option.bind_eq_some_iff.mp h
          refine ck_V (As := [.int x2]) (rest := []) (st1 := [.int q64]) (M_m_typeAt  hc64) t_1350 t_1352 p_72 t_1353 t_13 hx hb hts hown hC hX hS (hrc_m0 hC hX (by rfl)) hml hl.1 ⟨by rw [hRf]; decide, by rw [hRl]; decide⟩ ⟨rfl, rfl⟩ (n := 1) (by decide +kernel) rfl rfl rfl (lv_room (Nat.le_of_ble_eq_true rfl)) d_m_label_64 (fun H locs hX hS => ?_)
          refine lv_goto hx hb d_m_label_67 (tgt := 75) (by decide) ?_
          obtain rfl := Option.some.inj h
          exact rt_i hQ hx hb hr hX hS hlk d_m_label_75
      · rw [if_neg hc] at h
        refine lv_iconst (v := (-1)) hx hb d_m_label_53 (by decide) ?_
        refine lv_goto hx hb d_m_label_54 (tgt := 75) (by decide) ?_
        obtain rfl := Option.some.inj h
        exact rt_i hQ hx hb hr hX hS hlk d_m_label_75
    have J47 : ∀  (H : Heap) (locs : List Loc) (ls : Array Slot), hp D cA b ad (T, S2, o) H → va_S (Ab b) s.heap H locs → lv_has ls 4 [(0, .ref (b + 262)), (1, .int x1), (2, .int x2)] → m_label_J47 x1 x2 S2 = some rr → W p l e R s m args below meth c H locs 0 0 Q (F0 m 47 ls []) := by
      intro  H locs ls  hX hS hl h
      rw [m_label_J47] at h
      refine lv_iconst (v := 0) hx hb d_m_label_47 (by decide) ?_
      exact J48 false H locs ls  hX hS (lv_sub hl [0, 1, 2] rfl) h
    have J36 : ∀  (H : Heap) (locs : List Loc) (ls : Array Slot), hp D cA b ad (T, S2, o) H → va_S (Ab b) s.heap H locs → lv_has ls 4 [(0, .ref (b + 262)), (1, .int x1), (2, .int x2)] → m_label_J36 x1 x2 S2 = some rr → W p l e R s m args below meth c H locs 0 0 Q (F0 m 36 ls []) := by
      intro  H locs ls  hX hS hl h
      rw [m_label_J36] at h
      refine lv_iload_n hx hb d_m_label_36 rfl (lv_at hl 2 rfl) ?_
      obtain ⟨q37, hc37, h⟩ := Option.bind_eq_some_iff.mp h
      refine ck_S (As := [.int x2]) (rest := []) (st1 := [.int (bI q37)]) (M_m_isObject  hc37) t_1339 t_1340 t_1341 t_13 hx hb hts hown hC hX hS  hml hl.1 ⟨by rw [hRf]; decide, by rw [hRl]; decide⟩ ⟨rfl, rfl⟩ (n := 1) (by decide +kernel) rfl rfl rfl (lv_room (Nat.le_of_ble_eq_true rfl)) d_m_label_37 (fun H locs hX hS => ?_)
      refine lz_ifeq hx hb d_m_label_40 (tgt := 47) (by decide) (fun hc => ?_) (fun hc => ?_)
      · rw [if_neg hc] at h
        exact J47  H locs ls  hX hS (lv_sub hl [0, 1, 2] rfl) h
      · rw [if_pos hc] at h
        refine lv_iconst (v := 1) hx hb d_m_label_43 (by decide) ?_
        refine lv_goto hx hb d_m_label_44 (tgt := 48) (by decide) ?_
        exact J48 true H locs ls  hX hS (lv_sub hl [0, 1, 2] rfl) h
    refine lv_icmp_eq hx hb d_m_label_28 (tgt := 36) (by decide) (fun hc => ?_) (fun hc => ?_)
    · rw [if_pos hc] at h
      exact J36  H locs ls  hX hS (lv_sub hl [0, 1, 2] rfl) h
    · rw [if_neg hc] at h
      refine lv_iload_n hx hb d_m_label_31 rfl (lv_at hl 1 rfl) ?_
      refine lv_iconst (v := 2) hx hb d_m_label_32 (by decide) ?_
      refine lv_icmp_ne hx hb d_m_label_33 (tgt := 47) (by decide) (fun hc => ?_) (fun hc => ?_)
      · rw [if_neg hc] at h
        exact J47  H locs ls  hX hS (lv_sub hl [0, 1, 2] rfl) h
      · rw [if_pos hc] at h
        exact J36  H locs ls  hX hS (lv_sub hl [0, 1, 2] rfl) h
  · rw [if_pos hc] at h
    refine lv_iload_n hx hb d_m_label_9 rfl (lv_at hl 2 rfl) ?_
    obtain ⟨q10, hc10, h⟩ := Option.bind_eq_some_iff.mp h
    refine ck_S (As := [.int x2]) (rest := []) (st1 := [.int (bI q10)]) (M_m_isProcess  hc10) t_1332 t_1333 t_1334 t_13 hx hb hts hown hC hX hS  hml hl.1 ⟨by rw [hRf]; decide, by rw [hRl]; decide⟩ ⟨rfl, rfl⟩ (n := 1) (by decide +kernel) rfl rfl rfl (lv_room (Nat.le_of_ble_eq_true rfl)) d_m_label_10 (fun H locs hX hS => ?_)
    refine lz_ifeq hx hb d_m_label_13 (tgt := 24) (by decide) (fun hc => ?_) (fun hc => ?_)
    · rw [if_neg hc] at h
      refine lv_iconst (v := (-1)) hx hb d_m_label_24 (by decide) ?_
      obtain rfl := Option.some.inj h
      exact rt_i hQ hx hb hr hX hS hlk d_m_label_25
    · rw [if_pos hc] at h
      refine lv_aload_n hx hb d_m_label_16 rfl (lv_at hl 0 rfl) ?_
      refine lv_iload_n hx hb d_m_label_17 rfl (lv_at hl 2 rfl) ?_
      obtain ⟨q18, hc18, h⟩ := Option.bind_eq_some_iff.mp h
      refine ck_V (As := [.int x2]) (rest := []) (st1 := [.int q18]) (M_m_processType  hc18) t_1346 t_1348 p_71 t_1349 t_13 hx hb hts hown hC hX hS (hrc_m0 hC hX (by rfl)) hml hl.1 ⟨by rw [hRf]; decide, by rw [hRl]; decide⟩ ⟨rfl, rfl⟩ (n := 1) (by decide +kernel) rfl rfl rfl (lv_room (Nat.le_of_ble_eq_true rfl)) d_m_label_18 (fun H locs hX hS => ?_)
      refine lv_goto hx hb d_m_label_21 (tgt := 25) (by decide) ?_
      obtain rfl := Option.some.inj h
      exact rt_i hQ hx hb hr hX hS hlk d_m_label_25
abbrev y_m_cannotAsk : MethodName := ({ cls := "TypeGuardModel", name := "cannotAsk", desc := "(II)Z" } : Jvm.MethodName)
theorem d_m_cannotAsk_0 : decode prog_14_method_56_code 0 = .ok (.iload_n 1, 1) := by decide +kernel
theorem d_m_cannotAsk_1 : decode prog_14_method_56_code 1 = .ok (.invokestatic 303, 3) := by decide +kernel
theorem d_m_cannotAsk_4 : decode prog_14_method_56_code 4 = .ok (.ifCond .eq 34, 3) := by decide +kernel
theorem d_m_cannotAsk_7 : decode prog_14_method_56_code 7 = .ok (.iload_n 2, 1) := by decide +kernel
theorem d_m_cannotAsk_8 : decode prog_14_method_56_code 8 = .ok (.invokestatic 306, 3) := by decide +kernel
theorem d_m_cannotAsk_11 : decode prog_14_method_56_code 11 = .ok (.ifCond .eq 27, 3) := by decide +kernel
theorem d_m_cannotAsk_14 : decode prog_14_method_56_code 14 = .ok (.aload_n 0, 1) := by decide +kernel
theorem d_m_cannotAsk_15 : decode prog_14_method_56_code 15 = .ok (.iload_n 1, 1) := by decide +kernel
theorem d_m_cannotAsk_16 : decode prog_14_method_56_code 16 = .ok (.invokevirtual 309, 3) := by decide +kernel
theorem d_m_cannotAsk_19 : decode prog_14_method_56_code 19 = .ok (.ifCond .lt 19, 3) := by decide +kernel
theorem d_m_cannotAsk_22 : decode prog_14_method_56_code 22 = .ok (.aload_n 0, 1) := by decide +kernel
theorem d_m_cannotAsk_23 : decode prog_14_method_56_code 23 = .ok (.iload_n 2, 1) := by decide +kernel
theorem d_m_cannotAsk_24 : decode prog_14_method_56_code 24 = .ok (.invokevirtual 313, 3) := by decide +kernel
theorem d_m_cannotAsk_27 : decode prog_14_method_56_code 27 = .ok (.ifCond .lt 11, 3) := by decide +kernel
theorem d_m_cannotAsk_30 : decode prog_14_method_56_code 30 = .ok (.aload_n 0, 1) := by decide +kernel
theorem d_m_cannotAsk_31 : decode prog_14_method_56_code 31 = .ok (.iload_n 2, 1) := by decide +kernel
theorem d_m_cannotAsk_32 : decode prog_14_method_56_code 32 = .ok (.invokevirtual 316, 3) := by decide +kernel
theorem d_m_cannotAsk_35 : decode prog_14_method_56_code 35 = .ok (.ifCond .ge 7, 3) := by decide +kernel
theorem d_m_cannotAsk_38 : decode prog_14_method_56_code 38 = .ok (.iconst 1, 1) := by decide +kernel
theorem d_m_cannotAsk_39 : decode prog_14_method_56_code 39 = .ok (.goto 4, 3) := by decide +kernel
theorem d_m_cannotAsk_42 : decode prog_14_method_56_code 42 = .ok (.iconst 0, 1) := by decide +kernel
theorem d_m_cannotAsk_43 : decode prog_14_method_56_code 43 = .ok (.ireturn, 1) := by decide +kernel
def m_cannotAsk (x1 : Int32) (x2 : Int32) (S : MS) : Option Bool := ((m_isProcess x1).bind fun q1 => (if q1 = true then ((m_isObject x2).bind fun q8 => (if q8 = true then ((m_processType x1 S).bind fun q16 => (if q16 < 0 then some true else ((m_typeAt x2 S).bind fun q24 => (if q24 < 0 then some true else ((m_classAt x2 S).bind fun q32 => (if 0 ≤ q32 then some false else some true)))))) else some true)) else some true))
set_option maxHeartbeats 4000000 in
set_option maxRecDepth 100000 in
theorem M_m_cannotAsk {l : Launch} {D : va_G} {cA : Nat → ClassId} {b : Nat} {ad : Nat → Nat} {x1 : Int32} {x2 : Int32} {S : MS} {T : CS} {o : Nat → Int64} {rr : Bool}  (h : m_cannotAsk x1 x2 S = some rr) : Met l y_m_cannotAsk (Cond.code y_m_cannotAsk prog_14_method_56_code 3 (Option.some Jvm.ClassFile.FieldType.boolean) :: TW) { frames := 3, cells := 0, slots := 0, locals := 69 } (va_Pc [.ref (b + 262), .int x1, .int x2] (Rp D cA b ad (T, S, o))) (Qr D cA b ad (T, S, o) (some (.int (bI rr)))) 0 0 (Ab b) := by
  refine Ct_of (by decide) (Nat.le_of_ble_eq_true rfl) ?_
  intro p e R s m args below meth c ls Q H locs hR hQ hx hb hts hown hml hr hlk hC hX hS hl
  have hRf : R.frames = 3 := by rw [hR]
  have hRl : R.locals = 69 := by rw [hR]
  have hown : s.vm.findClass "TypeGuardModel" = some m.cls := hown
  have hl : lv_has ls 3 [(0, .ref (b + 262)), (1, .int x1), (2, .int x2)] := hl
  rw [m_cannotAsk] at h
  refine lv_iload_n hx hb d_m_cannotAsk_0 rfl (lv_at hl 1 rfl) ?_
  obtain ⟨q1, hc1, h⟩ := Option.bind_eq_some_iff.mp h
  refine ck_S (As := [.int x1]) (rest := []) (st1 := [.int (bI q1)]) (M_m_isProcess  hc1) t_1332 t_1333 t_1334 t_13 hx hb hts hown hC hX hS  hml hl.1 ⟨by rw [hRf]; decide, by rw [hRl]; decide⟩ ⟨rfl, rfl⟩ (n := 1) (by decide +kernel) rfl rfl rfl (lv_room (Nat.le_of_ble_eq_true rfl)) d_m_cannotAsk_1 (fun H locs hX hS => ?_)
  refine lz_ifeq hx hb d_m_cannotAsk_4 (tgt := 38) (by decide) (fun hc => ?_) (fun hc => ?_)
  · rw [if_neg hc] at h
    refine lv_iconst (v := 1) hx hb d_m_cannotAsk_38 (by decide) ?_
    refine lv_goto hx hb d_m_cannotAsk_39 (tgt := 43) (by decide) ?_
    obtain rfl := Option.some.inj h
    exact rt_zt hQ hx hb hr hX hS hlk d_m_cannotAsk_43
  · rw [if_pos hc] at h
    refine lv_iload_n hx hb d_m_cannotAsk_7 rfl (lv_at hl 2 rfl) ?_
    obtain ⟨q8, hc8, h⟩ := Option.bind_eq_some_iff.mp h
    refine ck_S (As := [.int x2]) (rest := []) (st1 := [.int (bI q8)]) (M_m_isObject  hc8) t_1339 t_1340 t_1341 t_13 hx hb hts hown hC hX hS  hml hl.1 ⟨by rw [hRf]; decide, by rw [hRl]; decide⟩ ⟨rfl, rfl⟩ (n := 1) (by decide +kernel) rfl rfl rfl (lv_room (Nat.le_of_ble_eq_true rfl)) d_m_cannotAsk_8 (fun H locs hX hS => ?_)
    refine lz_ifeq hx hb d_m_cannotAsk_11 (tgt := 38) (by decide) (fun hc => ?_) (fun hc => ?_)
    · rw [if_neg hc] at h
      refine lv_iconst (v := 1) hx hb d_m_cannotAsk_38 (by decide) ?_
      refine lv_goto hx hb d_m_cannotAsk_39 (tgt := 43) (by decide) ?_
      obtain rfl := Option.some.inj h
      exact rt_zt hQ hx hb hr hX hS hlk d_m_cannotAsk_43
    · rw [if_pos hc] at h
      refine lv_aload_n hx hb d_m_cannotAsk_14 rfl (lv_at hl 0 rfl) ?_
      refine lv_iload_n hx hb d_m_cannotAsk_15 rfl (lv_at hl 1 rfl) ?_
      obtain ⟨q16, hc16, h⟩ := Option.bind_eq_some_iff.mp h
      refine ck_V (As := [.int x1]) (rest := []) (st1 := [.int q16]) (M_m_processType  hc16) t_1346 t_1348 p_71 t_1349 t_13 hx hb hts hown hC hX hS (hrc_m0 hC hX (by rfl)) hml hl.1 ⟨by rw [hRf]; decide, by rw [hRl]; decide⟩ ⟨rfl, rfl⟩ (n := 1) (by decide +kernel) rfl rfl rfl (lv_room (Nat.le_of_ble_eq_true rfl)) d_m_cannotAsk_16 (fun H locs hX hS => ?_)
      refine lv_if_lt hx hb d_m_cannotAsk_19 (tgt := 38) (by decide) (fun hc => ?_) (fun hc => ?_)
      · rw [if_pos hc] at h
        refine lv_iconst (v := 1) hx hb d_m_cannotAsk_38 (by decide) ?_
        refine lv_goto hx hb d_m_cannotAsk_39 (tgt := 43) (by decide) ?_
        obtain rfl := Option.some.inj h
        exact rt_zt hQ hx hb hr hX hS hlk d_m_cannotAsk_43
      · rw [if_neg hc] at h
        refine lv_aload_n hx hb d_m_cannotAsk_22 rfl (lv_at hl 0 rfl) ?_
        refine lv_iload_n hx hb d_m_cannotAsk_23 rfl (lv_at hl 2 rfl) ?_
        obtain ⟨q24, hc24, h⟩ := Option.bind_eq_some_iff.mp h
        refine ck_V (As := [.int x2]) (rest := []) (st1 := [.int q24]) (M_m_typeAt  hc24) t_1350 t_1352 p_72 t_1353 t_13 hx hb hts hown hC hX hS (hrc_m0 hC hX (by rfl)) hml hl.1 ⟨by rw [hRf]; decide, by rw [hRl]; decide⟩ ⟨rfl, rfl⟩ (n := 1) (by decide +kernel) rfl rfl rfl (lv_room (Nat.le_of_ble_eq_true rfl)) d_m_cannotAsk_24 (fun H locs hX hS => ?_)
        refine lv_if_lt hx hb d_m_cannotAsk_27 (tgt := 38) (by decide) (fun hc => ?_) (fun hc => ?_)
        · rw [if_pos hc] at h
          refine lv_iconst (v := 1) hx hb d_m_cannotAsk_38 (by decide) ?_
          refine lv_goto hx hb d_m_cannotAsk_39 (tgt := 43) (by decide) ?_
          obtain rfl := Option.some.inj h
          exact rt_zt hQ hx hb hr hX hS hlk d_m_cannotAsk_43
        · rw [if_neg hc] at h
          refine lv_aload_n hx hb d_m_cannotAsk_30 rfl (lv_at hl 0 rfl) ?_
          refine lv_iload_n hx hb d_m_cannotAsk_31 rfl (lv_at hl 2 rfl) ?_
          obtain ⟨q32, hc32, h⟩ := Option.bind_eq_some_iff.mp h
          refine ck_V (As := [.int x2]) (rest := []) (st1 := [.int q32]) (M_m_classAt  hc32) t_1354 t_1356 p_73 t_1357 t_13 hx hb hts hown hC hX hS (hrc_m0 hC hX (by rfl)) hml hl.1 ⟨by rw [hRf]; decide, by rw [hRl]; decide⟩ ⟨rfl, rfl⟩ (n := 1) (by decide +kernel) rfl rfl rfl (lv_room (Nat.le_of_ble_eq_true rfl)) d_m_cannotAsk_32 (fun H locs hX hS => ?_)
          refine lv_if_ge hx hb d_m_cannotAsk_35 (tgt := 42) (by decide) (fun hc => ?_) (fun hc => ?_)
          · rw [if_pos hc] at h
            refine lv_iconst (v := 0) hx hb d_m_cannotAsk_42 (by decide) ?_
            obtain rfl := Option.some.inj h
            exact rt_zf hQ hx hb hr hX hS hlk d_m_cannotAsk_43
          · rw [if_neg hc] at h
            refine lv_iconst (v := 1) hx hb d_m_cannotAsk_38 (by decide) ?_
            refine lv_goto hx hb d_m_cannotAsk_39 (tgt := 43) (by decide) ?_
            obtain rfl := Option.some.inj h
            exact rt_zt hQ hx hb hr hX hS hlk d_m_cannotAsk_43
