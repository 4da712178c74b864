section LAW
variable {p : Program} {l : Launch} {e : Env} {R : Room} {s : State} {m : MethodId} {args : Array Value} {below : List Frame} {meth : Method} {c : Code} {H : Heap} {locs : List Loc} {cells slots : Nat} {Q : State → Prop}
variable {cc : ByteArray} {pc : Nat} {ls : Array Slot} {D : va_G} {cA : Nat → ClassId} {b : Nat} {ad : Nat → Nat}
theorem ck_VC {own : String} {y : MethodName} {bytes : ByteArray} {maxL n index nL : Nat} {ret : Option FieldType} {rm : Room} {S S' : ST} {v : Option Value} {As rest st0 st1 : List Value} {a : Nat}
    (hM : Met l y (Cond.code y bytes maxL ret :: TW) rm (va_Pc (.ref a :: As) (Rp D cA b ad S)) (Qr D cA b ad S' v) 0 0 (Ab b))
    (hl : Cond.methodLink own index y ∈ TW) (hin : Cond.instanceMethod y ∈ TW) (hse : Cond.selects y.cls y y ∈ TW) (hco : Cond.code y bytes maxL ret ∈ TW) (hini : Cond.initialized y.cls ∈ TW)
    (hx : p.tables.exec = Jvm.exec) (hb : c.code = cc) (hts : ∀ w ∈ TW, w.before args s = true) (hown : s.vm.findClass own = some m.cls) (hC : Cx D cA b ad s) (hX : hp D cA b ad S H) (hS : va_S (Ab b) s.heap H locs)
    (hrc : ∃ cell : Cell, H[a]? = some cell ∧ cell.vm.isStatics = false ∧ s.vm.findClass y.cls = some cell.cls) (hml : c.maxLocals = nL) (hsz : ls.size = nL) (hR : rm.frames + 1 ≤ R.frames ∧ 8 + (maxL + 11) + rm.locals ≤ R.locals) (hz : rm.cells = 0 ∧ rm.slots = 0)
    (hd : y.cls ≠ "java/lang/invoke/MethodHandle" ∧ y.cls ≠ "java/lang/invoke/VarHandle" ∧ (parseMethodDescriptor y.desc).map (fun d => d.parameters.length) = some n) (hn : As.length = n)
    (hst : st0 = As.reverse ++ .ref a :: rest) (h1 : v.toList ++ rest = st1) (hroom : 2 * (F0 m pc ls st0).monitorRoom + (rest.map fun v => v.category).sum ≤ 8) (hdg : decode cc pc = .ok (.invokevirtual index, 3)) (hcl : cells ≤ R.cells ∧ slots ≤ R.slots)
    (kk : ∀ (H : Heap) (locs : List Loc), hp D cA b ad S' H → va_S (Ab b) s.heap H locs → W p l e R s m args below meth c H locs cells slots Q (F0 m (pc + 3) ls st1)) : W p l e R s m args below meth c H locs cells slots Q (F0 m pc ls st0) :=
  ck_goN (va_runV (C := y.cls) (n := n) ⟨hx, hb, hml, hown, hts⟩ hM ⟨callB_of n hts (good_TW hco) rfl hz.1 hz.2 (hts _ hini) (hts _ hl) hd hR, hts _ hin, hts _ hse⟩ ⟨Rp_blind, hrc, Rp_pre hC hX hS⟩ rfl hn hsz hst hroom hdg hcl) hS h1 kk
theorem good_TWw {y : MethodName} {bytes : ByteArray} {maxL : Nat} {ret : Option FieldType} {hh : List (Nat × Nat × Nat × Nat)} (h : Cond.codeWith y bytes maxL ret hh ∈ TW) : GoodIn TW (Cond.codeWith y bytes maxL ret hh :: TW) := by
  intro w hw
  have hm : w ∈ TW := by
    rcases List.mem_cons.mp hw with h1 | h1
    · rw [h1]; exact h
    · exact h1
  exact ⟨hm, good_of_word (List.mem_filter.mp hm).2⟩
theorem ck_SW {own : String} {y : MethodName} {bytes : ByteArray} {maxL n index nL : Nat} {ret : Option FieldType} {hh : List (Nat × Nat × Nat × Nat)} {rm : Room} {S S' : ST} {v : Option Value} {As rest st0 st1 : List Value}
    (hM : Met l y (Cond.codeWith y bytes maxL ret hh :: TW) rm (va_Pc As (RpY D cA b ad S)) (Qr D cA b ad S' v) 1 6 (Ab b))
    (hl : Cond.methodLink own index y ∈ TW) (hstt : Cond.static y ∈ TW) (hco : Cond.codeWith y bytes maxL ret hh ∈ TW) (hini : Cond.initialized y.cls ∈ TW)
    (hx : p.tables.exec = Jvm.exec) (hb : c.code = cc) (hts : ∀ w ∈ TW, w.before args s = true) (hown : s.vm.findClass own = some m.cls) (hC : Cx D cA b ad s) (hY : Cy b s) (hX : hp D cA b ad S H) (hS : va_S (Ab b) s.heap H locs)
    (hml : c.maxLocals = nL) (hsz : ls.size = nL) (hR : rm.frames + 1 ≤ R.frames ∧ 8 + (maxL + 11) + rm.locals ≤ R.locals) (hz : rm.cells = 1 ∧ rm.slots = 6)
    (hd : y.cls ≠ "java/lang/invoke/MethodHandle" ∧ y.cls ≠ "java/lang/invoke/VarHandle" ∧ (parseMethodDescriptor y.desc).map (fun d => d.parameters.length) = some n) (hn : As.length = n)
    (hst : st0 = As.reverse ++ rest) (h1 : v.toList ++ rest = st1) (hroom : 2 * (F0 m pc ls st0).monitorRoom + (rest.map fun v => v.category).sum ≤ 8) (hdg : decode cc pc = .ok (.invokestatic index, 3)) (hf : cells + 1 ≤ R.cells ∧ slots + 6 ≤ R.slots)
    (kk : ∀ (H : Heap) (locs : List Loc), hp D cA b ad S' H → va_S (Ab b) s.heap H locs → W p l e R s m args below meth c H locs (cells + 1) (slots + 6) Q (F0 m (pc + 3) ls st1)) : W p l e R s m args below meth c H locs cells slots Q (F0 m pc ls st0) := by
  refine ck_goN (rest := rest) (v := v) (a := As.toArray) (mc := 1) (ms := 6) ?_ hS h1 kk
  intro T hT X
  have hK : Back l R p e below s args y 3 8 (PreOf R 1 6 (va_Pc As (RpY D cA b ad S))) (PostOf (Qr D cA b ad S' v) 1 6 (Ab b)) :=
    va_backW (bytes := bytes) (maxL := maxL) (ret := ret) (hh := hh) hM RpY_blind hz.1 hz.2 hR.1 hR.2 (pay_in hts (good_TWw hco)) List.mem_cons_self (fun a' U hW => word_at hW (Or.inl (by first | rfl | simp [Cond.onTables, Cond.keeps, Cond.steady])) (hts _ hini))
  obtain ⟨mk, methM, cM, hnamed, hmethM, -, -, -, -, -, -, hsigM⟩ := Cond.codeWith_spec (hts _ hco)
  have hstatic : methM.isStatic = true := Cond.static_spec hnamed hmethM (hts _ hstt)
  obtain ⟨kP, hkP, -⟩ := className_of_methodNamed hnamed
  have hinitP : kP.init = .initialized := Cond.initialized_spec (findClass_of_methodNamed hnamed) hkP (hts _ hini)
  have hlen : As.length = methM.sig.parameters.length := by
    have h3 := hd.2.2
    rw [hsigM] at h3
    exact hn.trans (Option.some.inj h3).symm
  obtain ⟨vm₁, X₁, hstep₁⟩ := X.invokestatic hx hown (hts _ hl) hnamed hmethM hstatic hkP hinitP ⟨hd.1, hd.2.1⟩ (g := F0 m pc ls st0) rfl (argsL := As) (rest := rest) hlen hst (by rw [hb]; exact hdg)
  obtain ⟨v', ⟨U', l2, c2, s2⟩, X', ⟨g', mk', t, L, e1, e2, hq, h1', hL, h2, h3⟩, hsteps⟩ := hK m meth c ⟨T.setVm vm₁, locs, cells, slots⟩ (F0 m pc ls rest) (.invokestatic index) mk As.toArray X₁ rfl (hsz.trans hml.symm) (by rw [hb]; exact hdg) hroom (X₁.named hnamed)
    ⟨hf.1, hf.2, RpY_pre hC hY hX hS (T.setVm vm₁) hT X₁.warmed⟩
  dsimp only [Pt.U, Pt.locs, Pt.cells, Pt.slots] at X' e1 e2 h1' h2 h3 hsteps
  subst h1'; subst h2; subst h3
  exact ⟨v', (T.setVm vm₁).calling g' mk' As.toArray, t, U', L, hT, X', hL, e1, e2, hq, fun target h => hstep₁ _ fun acts => by rw [doInvoke_state]; exact hsteps.trans h⟩
end LAW
theorem t_0 : (Jvm.Cond.initialized "TypeGuardLaw") ∈ TW := List.mem_filter.mpr ⟨List.mem_append_right _ (List.mem_append_left _ (List.mem_of_getElem? (i := 0) rfl)), rfl⟩
theorem t_359 : (Jvm.Cond.methodLink "TypeGuardLaw" (56 : Nat) ({ cls := "TypeGuard", name := "type", desc := "(JI)Z" } : Jvm.MethodName)) ∈ TW := List.mem_filter.mpr ⟨List.mem_append_right _ (List.mem_append_right _ (List.mem_append_left _ (List.mem_of_getElem? (i := 119) rfl))), rfl⟩
theorem t_360 : (Jvm.Cond.instanceMethod ({ cls := "TypeGuard", name := "type", desc := "(JI)Z" } : Jvm.MethodName)) ∈ TW := List.mem_filter.mpr ⟨List.mem_append_right _ (List.mem_append_right _ (List.mem_append_left _ (List.mem_of_getElem? (i := 120) rfl))), rfl⟩
theorem t_361 : (Jvm.Cond.selects "TypeGuard" ({ cls := "TypeGuard", name := "type", desc := "(JI)Z" } : Jvm.MethodName) ({ cls := "TypeGuard", name := "type", desc := "(JI)Z" } : Jvm.MethodName)) ∈ TW := List.mem_filter.mpr ⟨List.mem_append_right _ (List.mem_append_right _ (List.mem_append_left _ (List.mem_of_getElem? (i := 121) rfl))), rfl⟩
theorem t_362 : (Jvm.Cond.code ({ cls := "TypeGuard", name := "type", desc := "(JI)Z" } : Jvm.MethodName) prog_1_method_2_code (6 : Nat) (Option.some Jvm.ClassFile.FieldType.boolean)) ∈ TW := List.mem_filter.mpr ⟨List.mem_append_right _ (List.mem_append_right _ (List.mem_append_left _ (List.mem_of_getElem? (i := 122) rfl))), rfl⟩
theorem t_366 : (Jvm.Cond.methodLink "TypeGuardLaw" (70 : Nat) ({ cls := "TypeGuard", name := "fault", desc := "(I)I" } : Jvm.MethodName)) ∈ TW := List.mem_filter.mpr ⟨List.mem_append_right _ (List.mem_append_right _ (List.mem_append_left _ (List.mem_of_getElem? (i := 126) rfl))), rfl⟩
theorem t_367 : (Jvm.Cond.instanceMethod ({ cls := "TypeGuard", name := "fault", desc := "(I)I" } : Jvm.MethodName)) ∈ TW := List.mem_filter.mpr ⟨List.mem_append_right _ (List.mem_append_right _ (List.mem_append_left _ (List.mem_of_getElem? (i := 127) rfl))), rfl⟩
theorem t_368 : (Jvm.Cond.selects "TypeGuard" ({ cls := "TypeGuard", name := "fault", desc := "(I)I" } : Jvm.MethodName) ({ cls := "TypeGuard", name := "fault", desc := "(I)I" } : Jvm.MethodName)) ∈ TW := List.mem_filter.mpr ⟨List.mem_append_right _ (List.mem_append_right _ (List.mem_append_left _ (List.mem_of_getElem? (i := 128) rfl))), rfl⟩
theorem t_369 : (Jvm.Cond.code ({ cls := "TypeGuard", name := "fault", desc := "(I)I" } : Jvm.MethodName) prog_1_method_4_code (2 : Nat) (Option.some Jvm.ClassFile.FieldType.int)) ∈ TW := List.mem_filter.mpr ⟨List.mem_append_right _ (List.mem_append_right _ (List.mem_append_left _ (List.mem_of_getElem? (i := 129) rfl))), rfl⟩
theorem t_370 : (Jvm.Cond.methodLink "TypeGuardLaw" (75 : Nat) ({ cls := "TypeGuard", name := "count", desc := "(I)I" } : Jvm.MethodName)) ∈ TW := List.mem_filter.mpr ⟨List.mem_append_right _ (List.mem_append_right _ (List.mem_append_left _ (List.mem_of_getElem? (i := 130) rfl))), rfl⟩
theorem t_371 : (Jvm.Cond.instanceMethod ({ cls := "TypeGuard", name := "count", desc := "(I)I" } : Jvm.MethodName)) ∈ TW := List.mem_filter.mpr ⟨List.mem_append_right _ (List.mem_append_right _ (List.mem_append_left _ (List.mem_of_getElem? (i := 131) rfl))), rfl⟩
theorem t_372 : (Jvm.Cond.selects "TypeGuard" ({ cls := "TypeGuard", name := "count", desc := "(I)I" } : Jvm.MethodName) ({ cls := "TypeGuard", name := "count", desc := "(I)I" } : Jvm.MethodName)) ∈ TW := List.mem_filter.mpr ⟨List.mem_append_right _ (List.mem_append_right _ (List.mem_append_left _ (List.mem_of_getElem? (i := 132) rfl))), rfl⟩
theorem t_373 : (Jvm.Cond.code ({ cls := "TypeGuard", name := "count", desc := "(I)I" } : Jvm.MethodName) prog_1_method_5_code (2 : Nat) (Option.some Jvm.ClassFile.FieldType.int)) ∈ TW := List.mem_filter.mpr ⟨List.mem_append_right _ (List.mem_append_right _ (List.mem_append_left _ (List.mem_of_getElem? (i := 133) rfl))), rfl⟩
theorem t_374 : (Jvm.Cond.methodLink "TypeGuardLaw" (98 : Nat) ({ cls := "TypeGuard", name := "label", desc := "(II)I" } : Jvm.MethodName)) ∈ TW := List.mem_filter.mpr ⟨List.mem_append_right _ (List.mem_append_right _ (List.mem_append_left _ (List.mem_of_getElem? (i := 134) rfl))), rfl⟩
theorem t_375 : (Jvm.Cond.instanceMethod ({ cls := "TypeGuard", name := "label", desc := "(II)I" } : Jvm.MethodName)) ∈ TW := List.mem_filter.mpr ⟨List.mem_append_right _ (List.mem_append_right _ (List.mem_append_left _ (List.mem_of_getElem? (i := 135) rfl))), rfl⟩
theorem t_376 : (Jvm.Cond.selects "TypeGuard" ({ cls := "TypeGuard", name := "label", desc := "(II)I" } : Jvm.MethodName) ({ cls := "TypeGuard", name := "label", desc := "(II)I" } : Jvm.MethodName)) ∈ TW := List.mem_filter.mpr ⟨List.mem_append_right _ (List.mem_append_right _ (List.mem_append_left _ (List.mem_of_getElem? (i := 136) rfl))), rfl⟩
theorem t_377 : (Jvm.Cond.code ({ cls := "TypeGuard", name := "label", desc := "(II)I" } : Jvm.MethodName) prog_1_method_11_code (3 : Nat) (Option.some Jvm.ClassFile.FieldType.int)) ∈ TW := List.mem_filter.mpr ⟨List.mem_append_right _ (List.mem_append_right _ (List.mem_append_left _ (List.mem_of_getElem? (i := 137) rfl))), rfl⟩
theorem t_400 : (Jvm.Cond.methodLink "TypeGuardLaw" (113 : Nat) ({ cls := "TypeGuard", name := "cache", desc := "(I)I" } : Jvm.MethodName)) ∈ TW := List.mem_filter.mpr ⟨List.mem_append_right _ (List.mem_append_right _ (List.mem_append_left _ (List.mem_of_getElem? (i := 160) rfl))), rfl⟩
theorem t_401 : (Jvm.Cond.instanceMethod ({ cls := "TypeGuard", name := "cache", desc := "(I)I" } : Jvm.MethodName)) ∈ TW := List.mem_filter.mpr ⟨List.mem_append_right _ (List.mem_append_right _ (List.mem_append_left _ (List.mem_of_getElem? (i := 161) rfl))), rfl⟩
theorem t_402 : (Jvm.Cond.selects "TypeGuard" ({ cls := "TypeGuard", name := "cache", desc := "(I)I" } : Jvm.MethodName) ({ cls := "TypeGuard", name := "cache", desc := "(I)I" } : Jvm.MethodName)) ∈ TW := List.mem_filter.mpr ⟨List.mem_append_right _ (List.mem_append_right _ (List.mem_append_left _ (List.mem_of_getElem? (i := 162) rfl))), rfl⟩
theorem t_403 : (Jvm.Cond.code ({ cls := "TypeGuard", name := "cache", desc := "(I)I" } : Jvm.MethodName) prog_1_method_15_code (2 : Nat) (Option.some Jvm.ClassFile.FieldType.int)) ∈ TW := List.mem_filter.mpr ⟨List.mem_append_right _ (List.mem_append_right _ (List.mem_append_left _ (List.mem_of_getElem? (i := 163) rfl))), rfl⟩
theorem t_408 : (Jvm.Cond.methodLink "TypeGuardLaw" (117 : Nat) ({ cls := "TypeGuard", name := "note", desc := "(II)I" } : Jvm.MethodName)) ∈ TW := List.mem_filter.mpr ⟨List.mem_append_right _ (List.mem_append_right _ (List.mem_append_left _ (List.mem_of_getElem? (i := 168) rfl))), rfl⟩
theorem t_409 : (Jvm.Cond.instanceMethod ({ cls := "TypeGuard", name := "note", desc := "(II)I" } : Jvm.MethodName)) ∈ TW := List.mem_filter.mpr ⟨List.mem_append_right _ (List.mem_append_right _ (List.mem_append_left _ (List.mem_of_getElem? (i := 169) rfl))), rfl⟩
theorem t_410 : (Jvm.Cond.selects "TypeGuard" ({ cls := "TypeGuard", name := "note", desc := "(II)I" } : Jvm.MethodName) ({ cls := "TypeGuard", name := "note", desc := "(II)I" } : Jvm.MethodName)) ∈ TW := List.mem_filter.mpr ⟨List.mem_append_right _ (List.mem_append_right _ (List.mem_append_left _ (List.mem_of_getElem? (i := 170) rfl))), rfl⟩
theorem t_411 : (Jvm.Cond.code ({ cls := "TypeGuard", name := "note", desc := "(II)I" } : Jvm.MethodName) prog_1_method_16_code (3 : Nat) (Option.some Jvm.ClassFile.FieldType.int)) ∈ TW := List.mem_filter.mpr ⟨List.mem_append_right _ (List.mem_append_right _ (List.mem_append_left _ (List.mem_of_getElem? (i := 171) rfl))), rfl⟩
theorem t_419 : (Jvm.Cond.methodLink "TypeGuardLaw" (61 : Nat) ({ cls := "TypeGuardLaw", name := "load", desc := "(LTypeGuard;[J)I" } : Jvm.MethodName)) ∈ TW := List.mem_filter.mpr ⟨List.mem_append_right _ (List.mem_append_right _ (List.mem_append_left _ (List.mem_of_getElem? (i := 179) rfl))), rfl⟩
theorem t_420 : (Jvm.Cond.static ({ cls := "TypeGuardLaw", name := "load", desc := "(LTypeGuard;[J)I" } : Jvm.MethodName)) ∈ TW := List.mem_filter.mpr ⟨List.mem_append_right _ (List.mem_append_right _ (List.mem_append_left _ (List.mem_of_getElem? (i := 180) rfl))), rfl⟩
theorem t_421 : (Jvm.Cond.codeWith ({ cls := "TypeGuardLaw", name := "load", desc := "(LTypeGuard;[J)I" } : Jvm.MethodName) method_3_code (3 : Nat) (Option.some Jvm.ClassFile.FieldType.int) [((0 : Nat), (8 : Nat), (11 : Nat), (13 : Nat))]) ∈ TW := List.mem_filter.mpr ⟨List.mem_append_right _ (List.mem_append_right _ (List.mem_append_left _ (List.mem_of_getElem? (i := 181) rfl))), rfl⟩
theorem t_827 : (Jvm.Cond.methodLink "TypeGuardLaw" (79 : Nat) ({ cls := "TypeGuardLaw", name := "flip", desc := "(LTypeGuard;IZ[J)I" } : Jvm.MethodName)) ∈ TW := List.mem_filter.mpr ⟨List.mem_append_right _ (List.mem_append_right _ (List.mem_append_right _ (List.mem_append_right _ (List.mem_append_left _ (List.mem_of_getElem? (i := 107) rfl))))), rfl⟩
theorem t_828 : (Jvm.Cond.static ({ cls := "TypeGuardLaw", name := "flip", desc := "(LTypeGuard;IZ[J)I" } : Jvm.MethodName)) ∈ TW := List.mem_filter.mpr ⟨List.mem_append_right _ (List.mem_append_right _ (List.mem_append_right _ (List.mem_append_right _ (List.mem_append_left _ (List.mem_of_getElem? (i := 108) rfl))))), rfl⟩
theorem t_829 : (Jvm.Cond.codeWith ({ cls := "TypeGuardLaw", name := "flip", desc := "(LTypeGuard;IZ[J)I" } : Jvm.MethodName) method_4_code (5 : Nat) (Option.some Jvm.ClassFile.FieldType.int) [((0 : Nat), (17 : Nat), (20 : Nat), (19 : Nat))]) ∈ TW := List.mem_filter.mpr ⟨List.mem_append_right _ (List.mem_append_right _ (List.mem_append_right _ (List.mem_append_right _ (List.mem_append_left _ (List.mem_of_getElem? (i := 109) rfl))))), rfl⟩
theorem t_854 : (Jvm.Cond.methodLink "TypeGuardLaw" (83 : Nat) ({ cls := "TypeGuardLaw", name := "vector", desc := "(LTypeGuard;IIII[J)I" } : Jvm.MethodName)) ∈ TW := List.mem_filter.mpr ⟨List.mem_append_right _ (List.mem_append_right _ (List.mem_append_right _ (List.mem_append_right _ (List.mem_append_left _ (List.mem_of_getElem? (i := 134) rfl))))), rfl⟩
theorem t_855 : (Jvm.Cond.static ({ cls := "TypeGuardLaw", name := "vector", desc := "(LTypeGuard;IIII[J)I" } : Jvm.MethodName)) ∈ TW := List.mem_filter.mpr ⟨List.mem_append_right _ (List.mem_append_right _ (List.mem_append_right _ (List.mem_append_right _ (List.mem_append_left _ (List.mem_of_getElem? (i := 135) rfl))))), rfl⟩
theorem t_856 : (Jvm.Cond.codeWith ({ cls := "TypeGuardLaw", name := "vector", desc := "(LTypeGuard;IIII[J)I" } : Jvm.MethodName) method_5_code (7 : Nat) (Option.some Jvm.ClassFile.FieldType.int) [((0 : Nat), (14 : Nat), (17 : Nat), (19 : Nat))]) ∈ TW := List.mem_filter.mpr ⟨List.mem_append_right _ (List.mem_append_right _ (List.mem_append_right _ (List.mem_append_right _ (List.mem_append_left _ (List.mem_of_getElem? (i := 136) rfl))))), rfl⟩
theorem t_881 : (Jvm.Cond.methodLink "TypeGuardLaw" (87 : Nat) ({ cls := "TypeGuardLaw", name := "why", desc := "(LTypeGuard;IIII[J)I" } : Jvm.MethodName)) ∈ TW := List.mem_filter.mpr ⟨List.mem_append_right _ (List.mem_append_right _ (List.mem_append_right _ (List.mem_append_right _ (List.mem_append_left _ (List.mem_of_getElem? (i := 161) rfl))))), rfl⟩
theorem t_882 : (Jvm.Cond.static ({ cls := "TypeGuardLaw", name := "why", desc := "(LTypeGuard;IIII[J)I" } : Jvm.MethodName)) ∈ TW := List.mem_filter.mpr ⟨List.mem_append_right _ (List.mem_append_right _ (List.mem_append_right _ (List.mem_append_right _ (List.mem_append_left _ (List.mem_of_getElem? (i := 162) rfl))))), rfl⟩
theorem t_883 : (Jvm.Cond.codeWith ({ cls := "TypeGuardLaw", name := "why", desc := "(LTypeGuard;IIII[J)I" } : Jvm.MethodName) method_6_code (7 : Nat) (Option.some Jvm.ClassFile.FieldType.int) [((0 : Nat), (14 : Nat), (17 : Nat), (19 : Nat))]) ∈ TW := List.mem_filter.mpr ⟨List.mem_append_right _ (List.mem_append_right _ (List.mem_append_right _ (List.mem_append_right _ (List.mem_append_left _ (List.mem_of_getElem? (i := 163) rfl))))), rfl⟩
theorem t_892 : (Jvm.Cond.methodLink "TypeGuardLaw" (90 : Nat) ({ cls := "TypeGuardLaw", name := "enter", desc := "(LTypeGuard;II)I" } : Jvm.MethodName)) ∈ TW := List.mem_filter.mpr ⟨List.mem_append_right _ (List.mem_append_right _ (List.mem_append_right _ (List.mem_append_right _ (List.mem_append_left _ (List.mem_of_getElem? (i := 172) rfl))))), rfl⟩
theorem t_893 : (Jvm.Cond.static ({ cls := "TypeGuardLaw", name := "enter", desc := "(LTypeGuard;II)I" } : Jvm.MethodName)) ∈ TW := List.mem_filter.mpr ⟨List.mem_append_right _ (List.mem_append_right _ (List.mem_append_right _ (List.mem_append_right _ (List.mem_append_left _ (List.mem_of_getElem? (i := 173) rfl))))), rfl⟩
theorem t_894 : (Jvm.Cond.codeWith ({ cls := "TypeGuardLaw", name := "enter", desc := "(LTypeGuard;II)I" } : Jvm.MethodName) method_7_code (4 : Nat) (Option.some Jvm.ClassFile.FieldType.int) [((0 : Nat), (6 : Nat), (9 : Nat), (19 : Nat))]) ∈ TW := List.mem_filter.mpr ⟨List.mem_append_right _ (List.mem_append_right _ (List.mem_append_right _ (List.mem_append_right _ (List.mem_append_left _ (List.mem_of_getElem? (i := 174) rfl))))), rfl⟩
theorem t_904 : (Jvm.Cond.methodLink "TypeGuardLaw" (94 : Nat) ({ cls := "TypeGuardLaw", name := "put", desc := "(LTypeGuard;III)I" } : Jvm.MethodName)) ∈ TW := List.mem_filter.mpr ⟨List.mem_append_right _ (List.mem_append_right _ (List.mem_append_right _ (List.mem_append_right _ (List.mem_append_left _ (List.mem_of_getElem? (i := 184) rfl))))), rfl⟩
theorem t_905 : (Jvm.Cond.static ({ cls := "TypeGuardLaw", name := "put", desc := "(LTypeGuard;III)I" } : Jvm.MethodName)) ∈ TW := List.mem_filter.mpr ⟨List.mem_append_right _ (List.mem_append_right _ (List.mem_append_right _ (List.mem_append_right _ (List.mem_append_left _ (List.mem_of_getElem? (i := 185) rfl))))), rfl⟩
theorem t_906 : (Jvm.Cond.codeWith ({ cls := "TypeGuardLaw", name := "put", desc := "(LTypeGuard;III)I" } : Jvm.MethodName) method_8_code (5 : Nat) (Option.some Jvm.ClassFile.FieldType.int) [((0 : Nat), (7 : Nat), (10 : Nat), (19 : Nat))]) ∈ TW := List.mem_filter.mpr ⟨List.mem_append_right _ (List.mem_append_right _ (List.mem_append_right _ (List.mem_append_right _ (List.mem_append_left _ (List.mem_of_getElem? (i := 186) rfl))))), rfl⟩
theorem t_911 : (Jvm.Cond.methodLink "TypeGuardLaw" (102 : Nat) ({ cls := "TypeGuardLaw", name := "ask", desc := "(LTypeGuard;III[J)I" } : Jvm.MethodName)) ∈ TW := List.mem_filter.mpr ⟨List.mem_append_right _ (List.mem_append_right _ (List.mem_append_right _ (List.mem_append_right _ (List.mem_append_left _ (List.mem_of_getElem? (i := 191) rfl))))), rfl⟩
theorem t_912 : (Jvm.Cond.static ({ cls := "TypeGuardLaw", name := "ask", desc := "(LTypeGuard;III[J)I" } : Jvm.MethodName)) ∈ TW := List.mem_filter.mpr ⟨List.mem_append_right _ (List.mem_append_right _ (List.mem_append_right _ (List.mem_append_right _ (List.mem_append_left _ (List.mem_of_getElem? (i := 192) rfl))))), rfl⟩
theorem t_913 : (Jvm.Cond.codeWith ({ cls := "TypeGuardLaw", name := "ask", desc := "(LTypeGuard;III[J)I" } : Jvm.MethodName) method_9_code (6 : Nat) (Option.some Jvm.ClassFile.FieldType.int) [((0 : Nat), (19 : Nat), (22 : Nat), (19 : Nat))]) ∈ TW := List.mem_filter.mpr ⟨List.mem_append_right _ (List.mem_append_right _ (List.mem_append_right _ (List.mem_append_right _ (List.mem_append_left _ (List.mem_of_getElem? (i := 193) rfl))))), rfl⟩
theorem t_947 : (Jvm.Cond.methodLink "TypeGuardLaw" (106 : Nat) ({ cls := "TypeGuardLaw", name := "run", desc := "(LTypeGuard;II[J)I" } : Jvm.MethodName)) ∈ TW := List.mem_filter.mpr ⟨List.mem_append_right _ (List.mem_append_right _ (List.mem_append_right _ (List.mem_append_right _ (List.mem_append_left _ (List.mem_of_getElem? (i := 227) rfl))))), rfl⟩
theorem t_948 : (Jvm.Cond.static ({ cls := "TypeGuardLaw", name := "run", desc := "(LTypeGuard;II[J)I" } : Jvm.MethodName)) ∈ TW := List.mem_filter.mpr ⟨List.mem_append_right _ (List.mem_append_right _ (List.mem_append_right _ (List.mem_append_right _ (List.mem_append_left _ (List.mem_of_getElem? (i := 228) rfl))))), rfl⟩
theorem t_949 : (Jvm.Cond.codeWith ({ cls := "TypeGuardLaw", name := "run", desc := "(LTypeGuard;II[J)I" } : Jvm.MethodName) method_10_code (5 : Nat) (Option.some Jvm.ClassFile.FieldType.int) [((0 : Nat), (10 : Nat), (13 : Nat), (19 : Nat)), ((0 : Nat), (10 : Nat), (17 : Nat), (44 : Nat))]) ∈ TW := List.mem_filter.mpr ⟨List.mem_append_right _ (List.mem_append_right _ (List.mem_append_right _ (List.mem_append_right _ (List.mem_append_left _ (List.mem_of_getElem? (i := 229) rfl))))), rfl⟩
theorem t_974 : (Jvm.Cond.methodLink "TypeGuardLaw" (110 : Nat) ({ cls := "TypeGuardLaw", name := "make", desc := "(LTypeGuard;III[J)I" } : Jvm.MethodName)) ∈ TW := List.mem_filter.mpr ⟨List.mem_append_right _ (List.mem_append_right _ (List.mem_append_right _ (List.mem_append_right _ (List.mem_append_right _ (List.mem_append_left _ (List.mem_of_getElem? (i := 14) rfl)))))), rfl⟩
theorem t_975 : (Jvm.Cond.static ({ cls := "TypeGuardLaw", name := "make", desc := "(LTypeGuard;III[J)I" } : Jvm.MethodName)) ∈ TW := List.mem_filter.mpr ⟨List.mem_append_right _ (List.mem_append_right _ (List.mem_append_right _ (List.mem_append_right _ (List.mem_append_right _ (List.mem_append_left _ (List.mem_of_getElem? (i := 15) rfl)))))), rfl⟩
theorem t_976 : (Jvm.Cond.codeWith ({ cls := "TypeGuardLaw", name := "make", desc := "(LTypeGuard;III[J)I" } : Jvm.MethodName) method_11_code (6 : Nat) (Option.some Jvm.ClassFile.FieldType.int) [((0 : Nat), (12 : Nat), (15 : Nat), (19 : Nat)), ((0 : Nat), (12 : Nat), (19 : Nat), (44 : Nat))]) ∈ TW := List.mem_filter.mpr ⟨List.mem_append_right _ (List.mem_append_right _ (List.mem_append_right _ (List.mem_append_right _ (List.mem_append_right _ (List.mem_append_left _ (List.mem_of_getElem? (i := 16) rfl)))))), rfl⟩
theorem t_1132 : (Jvm.Cond.methodLink "TypeGuardLaw" (67 : Nat) ({ cls := "TypeGuardModel", name := "thrown", desc := "()I" } : Jvm.MethodName)) ∈ TW := List.mem_filter.mpr ⟨List.mem_append_right _ (List.mem_append_right _ (List.mem_append_right _ (List.mem_append_right _ (List.mem_append_right _ (List.mem_append_left _ (List.mem_of_getElem? (i := 172) rfl)))))), rfl⟩
theorem t_1133 : (Jvm.Cond.instanceMethod ({ cls := "TypeGuardModel", name := "thrown", desc := "()I" } : Jvm.MethodName)) ∈ TW := List.mem_filter.mpr ⟨List.mem_append_right _ (List.mem_append_right _ (List.mem_append_right _ (List.mem_append_right _ (List.mem_append_right _ (List.mem_append_left _ (List.mem_of_getElem? (i := 173) rfl)))))), rfl⟩
theorem t_1134 : (Jvm.Cond.selects "TypeGuardModel" ({ cls := "TypeGuardModel", name := "thrown", desc := "()I" } : Jvm.MethodName) ({ cls := "TypeGuardModel", name := "thrown", desc := "()I" } : Jvm.MethodName)) ∈ TW := List.mem_filter.mpr ⟨List.mem_append_right _ (List.mem_append_right _ (List.mem_append_right _ (List.mem_append_right _ (List.mem_append_right _ (List.mem_append_left _ (List.mem_of_getElem? (i := 174) rfl)))))), rfl⟩
theorem t_1135 : (Jvm.Cond.code ({ cls := "TypeGuardModel", name := "thrown", desc := "()I" } : Jvm.MethodName) prog_14_method_2_code (1 : Nat) (Option.some Jvm.ClassFile.FieldType.int)) ∈ TW := List.mem_filter.mpr ⟨List.mem_append_right _ (List.mem_append_right _ (List.mem_append_right _ (List.mem_append_right _ (List.mem_append_right _ (List.mem_append_left _ (List.mem_of_getElem? (i := 175) rfl)))))), rfl⟩
theorem t_1136 : (Jvm.Cond.methodLink "TypeGuardLaw" (60 : Nat) ({ cls := "TypeGuardModel", name := "type", desc := "(JI)Z" } : Jvm.MethodName)) ∈ TW := List.mem_filter.mpr ⟨List.mem_append_right _ (List.mem_append_right _ (List.mem_append_right _ (List.mem_append_right _ (List.mem_append_right _ (List.mem_append_left _ (List.mem_of_getElem? (i := 176) rfl)))))), rfl⟩
theorem t_1137 : (Jvm.Cond.instanceMethod ({ cls := "TypeGuardModel", name := "type", desc := "(JI)Z" } : Jvm.MethodName)) ∈ TW := List.mem_filter.mpr ⟨List.mem_append_right _ (List.mem_append_right _ (List.mem_append_right _ (List.mem_append_right _ (List.mem_append_right _ (List.mem_append_left _ (List.mem_of_getElem? (i := 177) rfl)))))), rfl⟩
theorem t_1138 : (Jvm.Cond.selects "TypeGuardModel" ({ cls := "TypeGuardModel", name := "type", desc := "(JI)Z" } : Jvm.MethodName) ({ cls := "TypeGuardModel", name := "type", desc := "(JI)Z" } : Jvm.MethodName)) ∈ TW := List.mem_filter.mpr ⟨List.mem_append_right _ (List.mem_append_right _ (List.mem_append_right _ (List.mem_append_right _ (List.mem_append_right _ (List.mem_append_left _ (List.mem_of_getElem? (i := 178) rfl)))))), rfl⟩
theorem t_1139 : (Jvm.Cond.code ({ cls := "TypeGuardModel", name := "type", desc := "(JI)Z" } : Jvm.MethodName) prog_14_method_37_code (6 : Nat) (Option.some Jvm.ClassFile.FieldType.boolean)) ∈ TW := List.mem_filter.mpr ⟨List.mem_append_right _ (List.mem_append_right _ (List.mem_append_right _ (List.mem_append_right _ (List.mem_append_right _ (List.mem_append_left _ (List.mem_of_getElem? (i := 179) rfl)))))), rfl⟩
theorem t_1141 : (Jvm.Cond.methodLink "TypeGuardLaw" (66 : Nat) ({ cls := "TypeGuardModel", name := "load", desc := "()I" } : Jvm.MethodName)) ∈ TW := List.mem_filter.mpr ⟨List.mem_append_right _ (List.mem_append_right _ (List.mem_append_right _ (List.mem_append_right _ (List.mem_append_right _ (List.mem_append_left _ (List.mem_of_getElem? (i := 181) rfl)))))), rfl⟩
theorem t_1142 : (Jvm.Cond.instanceMethod ({ cls := "TypeGuardModel", name := "load", desc := "()I" } : Jvm.MethodName)) ∈ TW := List.mem_filter.mpr ⟨List.mem_append_right _ (List.mem_append_right _ (List.mem_append_right _ (List.mem_append_right _ (List.mem_append_right _ (List.mem_append_left _ (List.mem_of_getElem? (i := 182) rfl)))))), rfl⟩
theorem t_1143 : (Jvm.Cond.selects "TypeGuardModel" ({ cls := "TypeGuardModel", name := "load", desc := "()I" } : Jvm.MethodName) ({ cls := "TypeGuardModel", name := "load", desc := "()I" } : Jvm.MethodName)) ∈ TW := List.mem_filter.mpr ⟨List.mem_append_right _ (List.mem_append_right _ (List.mem_append_right _ (List.mem_append_right _ (List.mem_append_right _ (List.mem_append_left _ (List.mem_of_getElem? (i := 183) rfl)))))), rfl⟩
theorem t_1144 : (Jvm.Cond.code ({ cls := "TypeGuardModel", name := "load", desc := "()I" } : Jvm.MethodName) prog_14_method_38_code (2 : Nat) (Option.some Jvm.ClassFile.FieldType.int)) ∈ TW := List.mem_filter.mpr ⟨List.mem_append_right _ (List.mem_append_right _ (List.mem_append_right _ (List.mem_append_right _ (List.mem_append_right _ (List.mem_append_left _ (List.mem_of_getElem? (i := 184) rfl)))))), rfl⟩
theorem t_1292 : (Jvm.Cond.methodLink "TypeGuardLaw" (74 : Nat) ({ cls := "TypeGuardModel", name := "fault", desc := "(I)I" } : Jvm.MethodName)) ∈ TW := List.mem_filter.mpr ⟨List.mem_append_right _ (List.mem_append_right _ (List.mem_append_right _ (List.mem_append_right _ (List.mem_append_right _ (List.mem_append_right _ (List.mem_of_getElem? (i := 92) rfl)))))), rfl⟩
theorem t_1293 : (Jvm.Cond.instanceMethod ({ cls := "TypeGuardModel", name := "fault", desc := "(I)I" } : Jvm.MethodName)) ∈ TW := List.mem_filter.mpr ⟨List.mem_append_right _ (List.mem_append_right _ (List.mem_append_right _ (List.mem_append_right _ (List.mem_append_right _ (List.mem_append_right _ (List.mem_of_getElem? (i := 93) rfl)))))), rfl⟩
theorem t_1294 : (Jvm.Cond.selects "TypeGuardModel" ({ cls := "TypeGuardModel", name := "fault", desc := "(I)I" } : Jvm.MethodName) ({ cls := "TypeGuardModel", name := "fault", desc := "(I)I" } : Jvm.MethodName)) ∈ TW := List.mem_filter.mpr ⟨List.mem_append_right _ (List.mem_append_right _ (List.mem_append_right _ (List.mem_append_right _ (List.mem_append_right _ (List.mem_append_right _ (List.mem_of_getElem? (i := 94) rfl)))))), rfl⟩
theorem t_1295 : (Jvm.Cond.code ({ cls := "TypeGuardModel", name := "fault", desc := "(I)I" } : Jvm.MethodName) prog_14_method_39_code (2 : Nat) (Option.some Jvm.ClassFile.FieldType.int)) ∈ TW := List.mem_filter.mpr ⟨List.mem_append_right _ (List.mem_append_right _ (List.mem_append_right _ (List.mem_append_right _ (List.mem_append_right _ (List.mem_append_right _ (List.mem_of_getElem? (i := 95) rfl)))))), rfl⟩
theorem t_1296 : (Jvm.Cond.methodLink "TypeGuardLaw" (78 : Nat) ({ cls := "TypeGuardModel", name := "count", desc := "(I)I" } : Jvm.MethodName)) ∈ TW := List.mem_filter.mpr ⟨List.mem_append_right _ (List.mem_append_right _ (List.mem_append_right _ (List.mem_append_right _ (List.mem_append_right _ (List.mem_append_right _ (List.mem_of_getElem? (i := 96) rfl)))))), rfl⟩
theorem t_1297 : (Jvm.Cond.instanceMethod ({ cls := "TypeGuardModel", name := "count", desc := "(I)I" } : Jvm.MethodName)) ∈ TW := List.mem_filter.mpr ⟨List.mem_append_right _ (List.mem_append_right _ (List.mem_append_right _ (List.mem_append_right _ (List.mem_append_right _ (List.mem_append_right _ (List.mem_of_getElem? (i := 97) rfl)))))), rfl⟩
theorem t_1298 : (Jvm.Cond.selects "TypeGuardModel" ({ cls := "TypeGuardModel", name := "count", desc := "(I)I" } : Jvm.MethodName) ({ cls := "TypeGuardModel", name := "count", desc := "(I)I" } : Jvm.MethodName)) ∈ TW := List.mem_filter.mpr ⟨List.mem_append_right _ (List.mem_append_right _ (List.mem_append_right _ (List.mem_append_right _ (List.mem_append_right _ (List.mem_append_right _ (List.mem_of_getElem? (i := 98) rfl)))))), rfl⟩
theorem t_1299 : (Jvm.Cond.code ({ cls := "TypeGuardModel", name := "count", desc := "(I)I" } : Jvm.MethodName) prog_14_method_40_code (2 : Nat) (Option.some Jvm.ClassFile.FieldType.int)) ∈ TW := List.mem_filter.mpr ⟨List.mem_append_right _ (List.mem_append_right _ (List.mem_append_right _ (List.mem_append_right _ (List.mem_append_right _ (List.mem_append_right _ (List.mem_of_getElem? (i := 99) rfl)))))), rfl⟩
theorem t_1300 : (Jvm.Cond.methodLink "TypeGuardLaw" (82 : Nat) ({ cls := "TypeGuardModel", name := "flip", desc := "(IZ)Z" } : Jvm.MethodName)) ∈ TW := List.mem_filter.mpr ⟨List.mem_append_right _ (List.mem_append_right _ (List.mem_append_right _ (List.mem_append_right _ (List.mem_append_right _ (List.mem_append_right _ (List.mem_of_getElem? (i := 100) rfl)))))), rfl⟩
theorem t_1301 : (Jvm.Cond.instanceMethod ({ cls := "TypeGuardModel", name := "flip", desc := "(IZ)Z" } : Jvm.MethodName)) ∈ TW := List.mem_filter.mpr ⟨List.mem_append_right _ (List.mem_append_right _ (List.mem_append_right _ (List.mem_append_right _ (List.mem_append_right _ (List.mem_append_right _ (List.mem_of_getElem? (i := 101) rfl)))))), rfl⟩
theorem t_1302 : (Jvm.Cond.selects "TypeGuardModel" ({ cls := "TypeGuardModel", name := "flip", desc := "(IZ)Z" } : Jvm.MethodName) ({ cls := "TypeGuardModel", name := "flip", desc := "(IZ)Z" } : Jvm.MethodName)) ∈ TW := List.mem_filter.mpr ⟨List.mem_append_right _ (List.mem_append_right _ (List.mem_append_right _ (List.mem_append_right _ (List.mem_append_right _ (List.mem_append_right _ (List.mem_of_getElem? (i := 102) rfl)))))), rfl⟩
theorem t_1303 : (Jvm.Cond.code ({ cls := "TypeGuardModel", name := "flip", desc := "(IZ)Z" } : Jvm.MethodName) prog_14_method_41_code (4 : Nat) (Option.some Jvm.ClassFile.FieldType.boolean)) ∈ TW := List.mem_filter.mpr ⟨List.mem_append_right _ (List.mem_append_right _ (List.mem_append_right _ (List.mem_append_right _ (List.mem_append_right _ (List.mem_append_right _ (List.mem_of_getElem? (i := 103) rfl)))))), rfl⟩
theorem t_1304 : (Jvm.Cond.methodLink "TypeGuardLaw" (86 : Nat) ({ cls := "TypeGuardModel", name := "vector", desc := "(IIII)I" } : Jvm.MethodName)) ∈ TW := List.mem_filter.mpr ⟨List.mem_append_right _ (List.mem_append_right _ (List.mem_append_right _ (List.mem_append_right _ (List.mem_append_right _ (List.mem_append_right _ (List.mem_of_getElem? (i := 104) rfl)))))), rfl⟩
theorem t_1305 : (Jvm.Cond.instanceMethod ({ cls := "TypeGuardModel", name := "vector", desc := "(IIII)I" } : Jvm.MethodName)) ∈ TW := List.mem_filter.mpr ⟨List.mem_append_right _ (List.mem_append_right _ (List.mem_append_right _ (List.mem_append_right _ (List.mem_append_right _ (List.mem_append_right _ (List.mem_of_getElem? (i := 105) rfl)))))), rfl⟩
theorem t_1306 : (Jvm.Cond.selects "TypeGuardModel" ({ cls := "TypeGuardModel", name := "vector", desc := "(IIII)I" } : Jvm.MethodName) ({ cls := "TypeGuardModel", name := "vector", desc := "(IIII)I" } : Jvm.MethodName)) ∈ TW := List.mem_filter.mpr ⟨List.mem_append_right _ (List.mem_append_right _ (List.mem_append_right _ (List.mem_append_right _ (List.mem_append_right _ (List.mem_append_right _ (List.mem_of_getElem? (i := 106) rfl)))))), rfl⟩
theorem t_1307 : (Jvm.Cond.code ({ cls := "TypeGuardModel", name := "vector", desc := "(IIII)I" } : Jvm.MethodName) prog_14_method_46_code (5 : Nat) (Option.some Jvm.ClassFile.FieldType.int)) ∈ TW := List.mem_filter.mpr ⟨List.mem_append_right _ (List.mem_append_right _ (List.mem_append_right _ (List.mem_append_right _ (List.mem_append_right _ (List.mem_append_right _ (List.mem_of_getElem? (i := 107) rfl)))))), rfl⟩
theorem t_1324 : (Jvm.Cond.methodLink "TypeGuardLaw" (89 : Nat) ({ cls := "TypeGuardModel", name := "why", desc := "(IIII)I" } : Jvm.MethodName)) ∈ TW := List.mem_filter.mpr ⟨List.mem_append_right _ (List.mem_append_right _ (List.mem_append_right _ (List.mem_append_right _ (List.mem_append_right _ (List.mem_append_right _ (List.mem_of_getElem? (i := 124) rfl)))))), rfl⟩
theorem t_1325 : (Jvm.Cond.instanceMethod ({ cls := "TypeGuardModel", name := "why", desc := "(IIII)I" } : Jvm.MethodName)) ∈ TW := List.mem_filter.mpr ⟨List.mem_append_right _ (List.mem_append_right _ (List.mem_append_right _ (List.mem_append_right _ (List.mem_append_right _ (List.mem_append_right _ (List.mem_of_getElem? (i := 125) rfl)))))), rfl⟩
theorem t_1326 : (Jvm.Cond.selects "TypeGuardModel" ({ cls := "TypeGuardModel", name := "why", desc := "(IIII)I" } : Jvm.MethodName) ({ cls := "TypeGuardModel", name := "why", desc := "(IIII)I" } : Jvm.MethodName)) ∈ TW := List.mem_filter.mpr ⟨List.mem_append_right _ (List.mem_append_right _ (List.mem_append_right _ (List.mem_append_right _ (List.mem_append_right _ (List.mem_append_right _ (List.mem_of_getElem? (i := 126) rfl)))))), rfl⟩
theorem t_1327 : (Jvm.Cond.code ({ cls := "TypeGuardModel", name := "why", desc := "(IIII)I" } : Jvm.MethodName) prog_14_method_47_code (8 : Nat) (Option.some Jvm.ClassFile.FieldType.int)) ∈ TW := List.mem_filter.mpr ⟨List.mem_append_right _ (List.mem_append_right _ (List.mem_append_right _ (List.mem_append_right _ (List.mem_append_right _ (List.mem_append_right _ (List.mem_of_getElem? (i := 127) rfl)))))), rfl⟩
theorem t_1328 : (Jvm.Cond.methodLink "TypeGuardLaw" (93 : Nat) ({ cls := "TypeGuardModel", name := "enter", desc := "(II)V" } : Jvm.MethodName)) ∈ TW := List.mem_filter.mpr ⟨List.mem_append_right _ (List.mem_append_right _ (List.mem_append_right _ (List.mem_append_right _ (List.mem_append_right _ (List.mem_append_right _ (List.mem_of_getElem? (i := 128) rfl)))))), rfl⟩
theorem t_1329 : (Jvm.Cond.instanceMethod ({ cls := "TypeGuardModel", name := "enter", desc := "(II)V" } : Jvm.MethodName)) ∈ TW := List.mem_filter.mpr ⟨List.mem_append_right _ (List.mem_append_right _ (List.mem_append_right _ (List.mem_append_right _ (List.mem_append_right _ (List.mem_append_right _ (List.mem_of_getElem? (i := 129) rfl)))))), rfl⟩
theorem t_1330 : (Jvm.Cond.selects "TypeGuardModel" ({ cls := "TypeGuardModel", name := "enter", desc := "(II)V" } : Jvm.MethodName) ({ cls := "TypeGuardModel", name := "enter", desc := "(II)V" } : Jvm.MethodName)) ∈ TW := List.mem_filter.mpr ⟨List.mem_append_right _ (List.mem_append_right _ (List.mem_append_right _ (List.mem_append_right _ (List.mem_append_right _ (List.mem_append_right _ (List.mem_of_getElem? (i := 130) rfl)))))), rfl⟩
theorem t_1331 : (Jvm.Cond.code ({ cls := "TypeGuardModel", name := "enter", desc := "(II)V" } : Jvm.MethodName) prog_14_method_50_code (3 : Nat) (Option.none : Option Jvm.ClassFile.FieldType)) ∈ TW := List.mem_filter.mpr ⟨List.mem_append_right _ (List.mem_append_right _ (List.mem_append_right _ (List.mem_append_right _ (List.mem_append_right _ (List.mem_append_right _ (List.mem_of_getElem? (i := 131) rfl)))))), rfl⟩
theorem t_1335 : (Jvm.Cond.methodLink "TypeGuardLaw" (97 : Nat) ({ cls := "TypeGuardModel", name := "put", desc := "(III)V" } : Jvm.MethodName)) ∈ TW := List.mem_filter.mpr ⟨List.mem_append_right _ (List.mem_append_right _ (List.mem_append_right _ (List.mem_append_right _ (List.mem_append_right _ (List.mem_append_right _ (List.mem_of_getElem? (i := 135) rfl)))))), rfl⟩
theorem t_1336 : (Jvm.Cond.instanceMethod ({ cls := "TypeGuardModel", name := "put", desc := "(III)V" } : Jvm.MethodName)) ∈ TW := List.mem_filter.mpr ⟨List.mem_append_right _ (List.mem_append_right _ (List.mem_append_right _ (List.mem_append_right _ (List.mem_append_right _ (List.mem_append_right _ (List.mem_of_getElem? (i := 136) rfl)))))), rfl⟩
theorem t_1337 : (Jvm.Cond.selects "TypeGuardModel" ({ cls := "TypeGuardModel", name := "put", desc := "(III)V" } : Jvm.MethodName) ({ cls := "TypeGuardModel", name := "put", desc := "(III)V" } : Jvm.MethodName)) ∈ TW := List.mem_filter.mpr ⟨List.mem_append_right _ (List.mem_append_right _ (List.mem_append_right _ (List.mem_append_right _ (List.mem_append_right _ (List.mem_append_right _ (List.mem_of_getElem? (i := 137) rfl)))))), rfl⟩
theorem t_1338 : (Jvm.Cond.code ({ cls := "TypeGuardModel", name := "put", desc := "(III)V" } : Jvm.MethodName) prog_14_method_51_code (4 : Nat) (Option.none : Option Jvm.ClassFile.FieldType)) ∈ TW := List.mem_filter.mpr ⟨List.mem_append_right _ (List.mem_append_right _ (List.mem_append_right _ (List.mem_append_right _ (List.mem_append_right _ (List.mem_append_right _ (List.mem_of_getElem? (i := 138) rfl)))))), rfl⟩
theorem t_1342 : (Jvm.Cond.methodLink "TypeGuardLaw" (101 : Nat) ({ cls := "TypeGuardModel", name := "label", desc := "(II)I" } : Jvm.MethodName)) ∈ TW := List.mem_filter.mpr ⟨List.mem_append_right _ (List.mem_append_right _ (List.mem_append_right _ (List.mem_append_right _ (List.mem_append_right _ (List.mem_append_right _ (List.mem_of_getElem? (i := 142) rfl)))))), rfl⟩
theorem t_1343 : (Jvm.Cond.instanceMethod ({ cls := "TypeGuardModel", name := "label", desc := "(II)I" } : Jvm.MethodName)) ∈ TW := List.mem_filter.mpr ⟨List.mem_append_right _ (List.mem_append_right _ (List.mem_append_right _ (List.mem_append_right _ (List.mem_append_right _ (List.mem_append_right _ (List.mem_of_getElem? (i := 143) rfl)))))), rfl⟩
theorem t_1344 : (Jvm.Cond.selects "TypeGuardModel" ({ cls := "TypeGuardModel", name := "label", desc := "(II)I" } : Jvm.MethodName) ({ cls := "TypeGuardModel", name := "label", desc := "(II)I" } : Jvm.MethodName)) ∈ TW := List.mem_filter.mpr ⟨List.mem_append_right _ (List.mem_append_right _ (List.mem_append_right _ (List.mem_append_right _ (List.mem_append_right _ (List.mem_append_right _ (List.mem_of_getElem? (i := 144) rfl)))))), rfl⟩
theorem t_1345 : (Jvm.Cond.code ({ cls := "TypeGuardModel", name := "label", desc := "(II)I" } : Jvm.MethodName) prog_14_method_55_code (4 : Nat) (Option.some Jvm.ClassFile.FieldType.int)) ∈ TW := List.mem_filter.mpr ⟨List.mem_append_right _ (List.mem_append_right _ (List.mem_append_right _ (List.mem_append_right _ (List.mem_append_right _ (List.mem_append_right _ (List.mem_of_getElem? (i := 145) rfl)))))), rfl⟩
theorem t_1358 : (Jvm.Cond.methodLink "TypeGuardLaw" (105 : Nat) ({ cls := "TypeGuardModel", name := "ask", desc := "(III)Z" } : Jvm.MethodName)) ∈ TW := List.mem_filter.mpr ⟨List.mem_append_right _ (List.mem_append_right _ (List.mem_append_right _ (List.mem_append_right _ (List.mem_append_right _ (List.mem_append_right _ (List.mem_of_getElem? (i := 158) rfl)))))), rfl⟩
theorem t_1359 : (Jvm.Cond.instanceMethod ({ cls := "TypeGuardModel", name := "ask", desc := "(III)Z" } : Jvm.MethodName)) ∈ TW := List.mem_filter.mpr ⟨List.mem_append_right _ (List.mem_append_right _ (List.mem_append_right _ (List.mem_append_right _ (List.mem_append_right _ (List.mem_append_right _ (List.mem_of_getElem? (i := 159) rfl)))))), rfl⟩
theorem t_1360 : (Jvm.Cond.selects "TypeGuardModel" ({ cls := "TypeGuardModel", name := "ask", desc := "(III)Z" } : Jvm.MethodName) ({ cls := "TypeGuardModel", name := "ask", desc := "(III)Z" } : Jvm.MethodName)) ∈ TW := List.mem_filter.mpr ⟨List.mem_append_right _ (List.mem_append_right _ (List.mem_append_right _ (List.mem_append_right _ (List.mem_append_right _ (List.mem_append_right _ (List.mem_of_getElem? (i := 160) rfl)))))), rfl⟩
theorem t_1361 : (Jvm.Cond.code ({ cls := "TypeGuardModel", name := "ask", desc := "(III)Z" } : Jvm.MethodName) prog_14_method_58_code (4 : Nat) (Option.some Jvm.ClassFile.FieldType.boolean)) ∈ TW := List.mem_filter.mpr ⟨List.mem_append_right _ (List.mem_append_right _ (List.mem_append_right _ (List.mem_append_right _ (List.mem_append_right _ (List.mem_append_right _ (List.mem_of_getElem? (i := 161) rfl)))))), rfl⟩
theorem t_1370 : (Jvm.Cond.methodLink "TypeGuardLaw" (109 : Nat) ({ cls := "TypeGuardModel", name := "run", desc := "(II)I" } : Jvm.MethodName)) ∈ TW := List.mem_filter.mpr ⟨List.mem_append_right _ (List.mem_append_right _ (List.mem_append_right _ (List.mem_append_right _ (List.mem_append_right _ (List.mem_append_right _ (List.mem_of_getElem? (i := 170) rfl)))))), rfl⟩
theorem t_1371 : (Jvm.Cond.instanceMethod ({ cls := "TypeGuardModel", name := "run", desc := "(II)I" } : Jvm.MethodName)) ∈ TW := List.mem_filter.mpr ⟨List.mem_append_right _ (List.mem_append_right _ (List.mem_append_right _ (List.mem_append_right _ (List.mem_append_right _ (List.mem_append_right _ (List.mem_of_getElem? (i := 171) rfl)))))), rfl⟩
theorem t_1372 : (Jvm.Cond.selects "TypeGuardModel" ({ cls := "TypeGuardModel", name := "run", desc := "(II)I" } : Jvm.MethodName) ({ cls := "TypeGuardModel", name := "run", desc := "(II)I" } : Jvm.MethodName)) ∈ TW := List.mem_filter.mpr ⟨List.mem_append_right _ (List.mem_append_right _ (List.mem_append_right _ (List.mem_append_right _ (List.mem_append_right _ (List.mem_append_right _ (List.mem_of_getElem? (i := 172) rfl)))))), rfl⟩
theorem t_1373 : (Jvm.Cond.code ({ cls := "TypeGuardModel", name := "run", desc := "(II)I" } : Jvm.MethodName) prog_14_method_60_code (7 : Nat) (Option.some Jvm.ClassFile.FieldType.int)) ∈ TW := List.mem_filter.mpr ⟨List.mem_append_right _ (List.mem_append_right _ (List.mem_append_right _ (List.mem_append_right _ (List.mem_append_right _ (List.mem_append_right _ (List.mem_of_getElem? (i := 173) rfl)))))), rfl⟩
theorem t_1378 : (Jvm.Cond.methodLink "TypeGuardLaw" (112 : Nat) ({ cls := "TypeGuardModel", name := "make", desc := "(III)I" } : Jvm.MethodName)) ∈ TW := List.mem_filter.mpr ⟨List.mem_append_right _ (List.mem_append_right _ (List.mem_append_right _ (List.mem_append_right _ (List.mem_append_right _ (List.mem_append_right _ (List.mem_of_getElem? (i := 178) rfl)))))), rfl⟩
theorem t_1379 : (Jvm.Cond.instanceMethod ({ cls := "TypeGuardModel", name := "make", desc := "(III)I" } : Jvm.MethodName)) ∈ TW := List.mem_filter.mpr ⟨List.mem_append_right _ (List.mem_append_right _ (List.mem_append_right _ (List.mem_append_right _ (List.mem_append_right _ (List.mem_append_right _ (List.mem_of_getElem? (i := 179) rfl)))))), rfl⟩
theorem t_1380 : (Jvm.Cond.selects "TypeGuardModel" ({ cls := "TypeGuardModel", name := "make", desc := "(III)I" } : Jvm.MethodName) ({ cls := "TypeGuardModel", name := "make", desc := "(III)I" } : Jvm.MethodName)) ∈ TW := List.mem_filter.mpr ⟨List.mem_append_right _ (List.mem_append_right _ (List.mem_append_right _ (List.mem_append_right _ (List.mem_append_right _ (List.mem_append_right _ (List.mem_of_getElem? (i := 180) rfl)))))), rfl⟩
theorem t_1381 : (Jvm.Cond.code ({ cls := "TypeGuardModel", name := "make", desc := "(III)I" } : Jvm.MethodName) prog_14_method_61_code (8 : Nat) (Option.some Jvm.ClassFile.FieldType.int)) ∈ TW := List.mem_filter.mpr ⟨List.mem_append_right _ (List.mem_append_right _ (List.mem_append_right _ (List.mem_append_right _ (List.mem_append_right _ (List.mem_append_right _ (List.mem_of_getElem? (i := 181) rfl)))))), rfl⟩
theorem t_1382 : (Jvm.Cond.methodLink "TypeGuardLaw" (116 : Nat) ({ cls := "TypeGuardModel", name := "cache", desc := "(I)I" } : Jvm.MethodName)) ∈ TW := List.mem_filter.mpr ⟨List.mem_append_right _ (List.mem_append_right _ (List.mem_append_right _ (List.mem_append_right _ (List.mem_append_right _ (List.mem_append_right _ (List.mem_of_getElem? (i := 182) rfl)))))), rfl⟩
theorem t_1383 : (Jvm.Cond.instanceMethod ({ cls := "TypeGuardModel", name := "cache", desc := "(I)I" } : Jvm.MethodName)) ∈ TW := List.mem_filter.mpr ⟨List.mem_append_right _ (List.mem_append_right _ (List.mem_append_right _ (List.mem_append_right _ (List.mem_append_right _ (List.mem_append_right _ (List.mem_of_getElem? (i := 183) rfl)))))), rfl⟩
theorem t_1384 : (Jvm.Cond.selects "TypeGuardModel" ({ cls := "TypeGuardModel", name := "cache", desc := "(I)I" } : Jvm.MethodName) ({ cls := "TypeGuardModel", name := "cache", desc := "(I)I" } : Jvm.MethodName)) ∈ TW := List.mem_filter.mpr ⟨List.mem_append_right _ (List.mem_append_right _ (List.mem_append_right _ (List.mem_append_right _ (List.mem_append_right _ (List.mem_append_right _ (List.mem_of_getElem? (i := 184) rfl)))))), rfl⟩
theorem t_1385 : (Jvm.Cond.code ({ cls := "TypeGuardModel", name := "cache", desc := "(I)I" } : Jvm.MethodName) prog_14_method_62_code (4 : Nat) (Option.some Jvm.ClassFile.FieldType.int)) ∈ TW := List.mem_filter.mpr ⟨List.mem_append_right _ (List.mem_append_right _ (List.mem_append_right _ (List.mem_append_right _ (List.mem_append_right _ (List.mem_append_right _ (List.mem_of_getElem? (i := 185) rfl)))))), rfl⟩
theorem t_1386 : (Jvm.Cond.methodLink "TypeGuardLaw" (120 : Nat) ({ cls := "TypeGuardModel", name := "note", desc := "(II)I" } : Jvm.MethodName)) ∈ TW := List.mem_filter.mpr ⟨List.mem_append_right _ (List.mem_append_right _ (List.mem_append_right _ (List.mem_append_right _ (List.mem_append_right _ (List.mem_append_right _ (List.mem_of_getElem? (i := 186) rfl)))))), rfl⟩
theorem t_1387 : (Jvm.Cond.instanceMethod ({ cls := "TypeGuardModel", name := "note", desc := "(II)I" } : Jvm.MethodName)) ∈ TW := List.mem_filter.mpr ⟨List.mem_append_right _ (List.mem_append_right _ (List.mem_append_right _ (List.mem_append_right _ (List.mem_append_right _ (List.mem_append_right _ (List.mem_of_getElem? (i := 187) rfl)))))), rfl⟩
theorem t_1388 : (Jvm.Cond.selects "TypeGuardModel" ({ cls := "TypeGuardModel", name := "note", desc := "(II)I" } : Jvm.MethodName) ({ cls := "TypeGuardModel", name := "note", desc := "(II)I" } : Jvm.MethodName)) ∈ TW := List.mem_filter.mpr ⟨List.mem_append_right _ (List.mem_append_right _ (List.mem_append_right _ (List.mem_append_right _ (List.mem_append_right _ (List.mem_append_right _ (List.mem_of_getElem? (i := 188) rfl)))))), rfl⟩
theorem t_1389 : (Jvm.Cond.code ({ cls := "TypeGuardModel", name := "note", desc := "(II)I" } : Jvm.MethodName) prog_14_method_63_code (3 : Nat) (Option.some Jvm.ClassFile.FieldType.int)) ∈ TW := List.mem_filter.mpr ⟨List.mem_append_right _ (List.mem_append_right _ (List.mem_append_right _ (List.mem_append_right _ (List.mem_append_right _ (List.mem_append_right _ (List.mem_of_getElem? (i := 189) rfl)))))), rfl⟩
theorem t_1390 : (Jvm.Cond.constantLong "TypeGuardLaw" (54 : Nat) (4294967295 : Int64)) ∈ TW := List.mem_filter.mpr ⟨List.mem_append_right _ (List.mem_append_right _ (List.mem_append_right _ (List.mem_append_right _ (List.mem_append_right _ (List.mem_append_right _ (List.mem_of_getElem? (i := 190) rfl)))))), rfl⟩
theorem d_w_law_0 : decode code 0 = .ok (.new 8, 3) := by decide +kernel
theorem d_w_law_3 : decode code 3 = .ok (.dup, 1) := by decide +kernel
theorem d_w_law_4 : decode code 4 = .ok (.invokespecial 50, 3) := by decide +kernel
theorem d_w_law_7 : decode code 7 = .ok (.astore_n 1, 1) := by decide +kernel
theorem d_w_law_8 : decode code 8 = .ok (.new 51, 3) := by decide +kernel
theorem d_w_law_11 : decode code 11 = .ok (.dup, 1) := by decide +kernel
theorem d_w_law_12 : decode code 12 = .ok (.invokespecial 53, 3) := by decide +kernel
theorem d_w_law_15 : decode code 15 = .ok (.astore_n 2, 1) := by decide +kernel
theorem d_w_law_16 : decode code 16 = .ok (.iconst 1, 1) := by decide +kernel
theorem d_w_law_17 : decode code 17 = .ok (.newarray .long, 2) := by decide +kernel
theorem d_w_law_19 : decode code 19 = .ok (.astore_n 3, 1) := by decide +kernel
theorem d_w_law_20 : decode code 20 = .ok (.iconst 0, 1) := by decide +kernel
theorem d_w_law_21 : decode code 21 = .ok (.istore 4, 2) := by decide +kernel
theorem d_w_law_23 : decode code 23 = .ok (.iload 4, 2) := by decide +kernel
theorem d_w_law_25 : decode code 25 = .ok (.aload_n 0, 1) := by decide +kernel
theorem d_w_law_26 : decode code 26 = .ok (.arraylength, 1) := by decide +kernel
theorem d_w_law_27 : decode code 27 = .ok (.iconst 5, 1) := by decide +kernel
theorem d_w_law_28 : decode code 28 = .ok (.isub, 1) := by decide +kernel
theorem d_w_law_29 : decode code 29 = .ok (.if_icmp .gt 969, 3) := by decide +kernel
theorem d_w_law_32 : decode code 32 = .ok (.aload_n 0, 1) := by decide +kernel
theorem d_w_law_33 : decode code 33 = .ok (.iload 4, 2) := by decide +kernel
theorem d_w_law_35 : decode code 35 = .ok (.iaload, 1) := by decide +kernel
theorem d_w_law_36 : decode code 36 = .ok (.bipush 15, 2) := by decide +kernel
theorem d_w_law_38 : decode code 38 = .ok (.iand, 1) := by decide +kernel
theorem d_w_law_39 : decode code 39 = .ok (.tableswitch 953 0 14 #[73, 142, 186, 211, 236, 327, 419, 511, 559, 619, 656, 743, 811, 891, 916], 73) := by decide +kernel
theorem d_w_law_112 : decode code 112 = .ok (.aload_n 1, 1) := by decide +kernel
theorem d_w_law_113 : decode code 113 = .ok (.aload_n 0, 1) := by decide +kernel
theorem d_w_law_114 : decode code 114 = .ok (.iload 4, 2) := by decide +kernel
theorem d_w_law_116 : decode code 116 = .ok (.iconst 1, 1) := by decide +kernel
theorem d_w_law_117 : decode code 117 = .ok (.iadd, 1) := by decide +kernel
theorem d_w_law_118 : decode code 118 = .ok (.iaload, 1) := by decide +kernel
theorem d_w_law_119 : decode code 119 = .ok (.i2l, 1) := by decide +kernel
theorem d_w_law_120 : decode code 120 = .ok (.bipush 32, 2) := by decide +kernel
theorem d_w_law_122 : decode code 122 = .ok (.lshl, 1) := by decide +kernel
theorem d_w_law_123 : decode code 123 = .ok (.aload_n 0, 1) := by decide +kernel
theorem d_w_law_124 : decode code 124 = .ok (.iload 4, 2) := by decide +kernel
theorem d_w_law_126 : decode code 126 = .ok (.iconst 2, 1) := by decide +kernel
theorem d_w_law_127 : decode code 127 = .ok (.iadd, 1) := by decide +kernel
theorem d_w_law_128 : decode code 128 = .ok (.iaload, 1) := by decide +kernel
theorem d_w_law_129 : decode code 129 = .ok (.i2l, 1) := by decide +kernel
theorem d_w_law_130 : decode code 130 = .ok (.ldc2_w 54, 3) := by decide +kernel
theorem d_w_law_133 : decode code 133 = .ok (.land, 1) := by decide +kernel
theorem d_w_law_134 : decode code 134 = .ok (.lor, 1) := by decide +kernel
theorem d_w_law_135 : decode code 135 = .ok (.aload_n 0, 1) := by decide +kernel
theorem d_w_law_136 : decode code 136 = .ok (.iload 4, 2) := by decide +kernel
theorem d_w_law_138 : decode code 138 = .ok (.iconst 3, 1) := by decide +kernel
theorem d_w_law_139 : decode code 139 = .ok (.iadd, 1) := by decide +kernel
theorem d_w_law_140 : decode code 140 = .ok (.iaload, 1) := by decide +kernel
theorem d_w_law_141 : decode code 141 = .ok (.invokevirtual 56, 3) := by decide +kernel
theorem d_w_law_144 : decode code 144 = .ok (.aload_n 2, 1) := by decide +kernel
theorem d_w_law_145 : decode code 145 = .ok (.aload_n 0, 1) := by decide +kernel
theorem d_w_law_146 : decode code 146 = .ok (.iload 4, 2) := by decide +kernel
theorem d_w_law_148 : decode code 148 = .ok (.iconst 1, 1) := by decide +kernel
theorem d_w_law_149 : decode code 149 = .ok (.iadd, 1) := by decide +kernel
theorem d_w_law_150 : decode code 150 = .ok (.iaload, 1) := by decide +kernel
theorem d_w_law_151 : decode code 151 = .ok (.i2l, 1) := by decide +kernel
theorem d_w_law_152 : decode code 152 = .ok (.bipush 32, 2) := by decide +kernel
theorem d_w_law_154 : decode code 154 = .ok (.lshl, 1) := by decide +kernel
theorem d_w_law_155 : decode code 155 = .ok (.aload_n 0, 1) := by decide +kernel
theorem d_w_law_156 : decode code 156 = .ok (.iload 4, 2) := by decide +kernel
theorem d_w_law_158 : decode code 158 = .ok (.iconst 2, 1) := by decide +kernel
theorem d_w_law_159 : decode code 159 = .ok (.iadd, 1) := by decide +kernel
theorem d_w_law_160 : decode code 160 = .ok (.iaload, 1) := by decide +kernel
theorem d_w_law_161 : decode code 161 = .ok (.i2l, 1) := by decide +kernel
theorem d_w_law_162 : decode code 162 = .ok (.ldc2_w 54, 3) := by decide +kernel
theorem d_w_law_165 : decode code 165 = .ok (.land, 1) := by decide +kernel
theorem d_w_law_166 : decode code 166 = .ok (.lor, 1) := by decide +kernel
theorem d_w_law_167 : decode code 167 = .ok (.aload_n 0, 1) := by decide +kernel
theorem d_w_law_168 : decode code 168 = .ok (.iload 4, 2) := by decide +kernel
theorem d_w_law_170 : decode code 170 = .ok (.iconst 3, 1) := by decide +kernel
theorem d_w_law_171 : decode code 171 = .ok (.iadd, 1) := by decide +kernel
theorem d_w_law_172 : decode code 172 = .ok (.iaload, 1) := by decide +kernel
theorem d_w_law_173 : decode code 173 = .ok (.invokevirtual 60, 3) := by decide +kernel
theorem d_w_law_176 : decode code 176 = .ok (.if_icmp .eq 816, 3) := by decide +kernel
theorem d_w_law_179 : decode code 179 = .ok (.iconst 0, 1) := by decide +kernel
theorem d_w_law_180 : decode code 180 = .ok (.ireturn, 1) := by decide +kernel
theorem d_w_law_181 : decode code 181 = .ok (.aload_n 1, 1) := by decide +kernel
theorem d_w_law_182 : decode code 182 = .ok (.aload_n 3, 1) := by decide +kernel
theorem d_w_law_183 : decode code 183 = .ok (.invokestatic 61, 3) := by decide +kernel
theorem d_w_law_186 : decode code 186 = .ok (.istore 5, 2) := by decide +kernel
theorem d_w_law_188 : decode code 188 = .ok (.aload_n 2, 1) := by decide +kernel
theorem d_w_law_189 : decode code 189 = .ok (.invokevirtual 66, 3) := by decide +kernel
theorem d_w_law_192 : decode code 192 = .ok (.istore 6, 2) := by decide +kernel
theorem d_w_law_194 : decode code 194 = .ok (.aload_n 2, 1) := by decide +kernel
theorem d_w_law_195 : decode code 195 = .ok (.invokevirtual 67, 3) := by decide +kernel
theorem d_w_law_198 : decode code 198 = .ok (.iload 5, 2) := by decide +kernel
theorem d_w_law_200 : decode code 200 = .ok (.if_icmp .eq 5, 3) := by decide +kernel
theorem d_w_law_203 : decode code 203 = .ok (.iconst 0, 1) := by decide +kernel
theorem d_w_law_204 : decode code 204 = .ok (.ireturn, 1) := by decide +kernel
theorem d_w_law_205 : decode code 205 = .ok (.iload 5, 2) := by decide +kernel
theorem d_w_law_207 : decode code 207 = .ok (.ifCond .ne 15, 3) := by decide +kernel
theorem d_w_law_210 : decode code 210 = .ok (.aload_n 3, 1) := by decide +kernel
theorem d_w_law_211 : decode code 211 = .ok (.iconst 0, 1) := by decide +kernel
theorem d_w_law_212 : decode code 212 = .ok (.laload, 1) := by decide +kernel
theorem d_w_law_213 : decode code 213 = .ok (.iload 6, 2) := by decide +kernel
theorem d_w_law_215 : decode code 215 = .ok (.i2l, 1) := by decide +kernel
theorem d_w_law_216 : decode code 216 = .ok (.lcmp, 1) := by decide +kernel
theorem d_w_law_217 : decode code 217 = .ok (.ifCond .eq 5, 3) := by decide +kernel
theorem d_w_law_220 : decode code 220 = .ok (.iconst 0, 1) := by decide +kernel
theorem d_w_law_221 : decode code 221 = .ok (.ireturn, 1) := by decide +kernel
theorem d_w_law_222 : decode code 222 = .ok (.goto 770, 3) := by decide +kernel
theorem d_w_law_225 : decode code 225 = .ok (.aload_n 1, 1) := by decide +kernel
theorem d_w_law_226 : decode code 226 = .ok (.aload_n 0, 1) := by decide +kernel
theorem d_w_law_227 : decode code 227 = .ok (.iload 4, 2) := by decide +kernel
theorem d_w_law_229 : decode code 229 = .ok (.iconst 1, 1) := by decide +kernel
theorem d_w_law_230 : decode code 230 = .ok (.iadd, 1) := by decide +kernel
theorem d_w_law_231 : decode code 231 = .ok (.iaload, 1) := by decide +kernel
theorem d_w_law_232 : decode code 232 = .ok (.invokevirtual 70, 3) := by decide +kernel
theorem d_w_law_235 : decode code 235 = .ok (.aload_n 2, 1) := by decide +kernel
theorem d_w_law_236 : decode code 236 = .ok (.aload_n 0, 1) := by decide +kernel
theorem d_w_law_237 : decode code 237 = .ok (.iload 4, 2) := by decide +kernel
theorem d_w_law_239 : decode code 239 = .ok (.iconst 1, 1) := by decide +kernel
theorem d_w_law_240 : decode code 240 = .ok (.iadd, 1) := by decide +kernel
theorem d_w_law_241 : decode code 241 = .ok (.iaload, 1) := by decide +kernel
theorem d_w_law_242 : decode code 242 = .ok (.invokevirtual 74, 3) := by decide +kernel
theorem d_w_law_245 : decode code 245 = .ok (.if_icmp .eq 747, 3) := by decide +kernel
theorem d_w_law_248 : decode code 248 = .ok (.iconst 0, 1) := by decide +kernel
theorem d_w_law_249 : decode code 249 = .ok (.ireturn, 1) := by decide +kernel
theorem d_w_law_250 : decode code 250 = .ok (.aload_n 1, 1) := by decide +kernel
theorem d_w_law_251 : decode code 251 = .ok (.aload_n 0, 1) := by decide +kernel
theorem d_w_law_252 : decode code 252 = .ok (.iload 4, 2) := by decide +kernel
theorem d_w_law_254 : decode code 254 = .ok (.iconst 1, 1) := by decide +kernel
theorem d_w_law_255 : decode code 255 = .ok (.iadd, 1) := by decide +kernel
theorem d_w_law_256 : decode code 256 = .ok (.iaload, 1) := by decide +kernel
theorem d_w_law_257 : decode code 257 = .ok (.invokevirtual 75, 3) := by decide +kernel
theorem d_w_law_260 : decode code 260 = .ok (.aload_n 2, 1) := by decide +kernel
theorem d_w_law_261 : decode code 261 = .ok (.aload_n 0, 1) := by decide +kernel
theorem d_w_law_262 : decode code 262 = .ok (.iload 4, 2) := by decide +kernel
theorem d_w_law_264 : decode code 264 = .ok (.iconst 1, 1) := by decide +kernel
theorem d_w_law_265 : decode code 265 = .ok (.iadd, 1) := by decide +kernel
theorem d_w_law_266 : decode code 266 = .ok (.iaload, 1) := by decide +kernel
theorem d_w_law_267 : decode code 267 = .ok (.invokevirtual 78, 3) := by decide +kernel
theorem d_w_law_270 : decode code 270 = .ok (.if_icmp .eq 722, 3) := by decide +kernel
theorem d_w_law_273 : decode code 273 = .ok (.iconst 0, 1) := by decide +kernel
theorem d_w_law_274 : decode code 274 = .ok (.ireturn, 1) := by decide +kernel
theorem d_w_law_275 : decode code 275 = .ok (.aload_n 1, 1) := by decide +kernel
theorem d_w_law_276 : decode code 276 = .ok (.aload_n 0, 1) := by decide +kernel
theorem d_w_law_277 : decode code 277 = .ok (.iload 4, 2) := by decide +kernel
theorem d_w_law_279 : decode code 279 = .ok (.iconst 1, 1) := by decide +kernel
theorem d_w_law_280 : decode code 280 = .ok (.iadd, 1) := by decide +kernel
theorem d_w_law_281 : decode code 281 = .ok (.iaload, 1) := by decide +kernel
theorem d_w_law_282 : decode code 282 = .ok (.aload_n 0, 1) := by decide +kernel
theorem d_w_law_283 : decode code 283 = .ok (.iload 4, 2) := by decide +kernel
theorem d_w_law_285 : decode code 285 = .ok (.iconst 2, 1) := by decide +kernel
theorem d_w_law_286 : decode code 286 = .ok (.iadd, 1) := by decide +kernel
theorem d_w_law_287 : decode code 287 = .ok (.iaload, 1) := by decide +kernel
theorem d_w_law_288 : decode code 288 = .ok (.ifCond .eq 7, 3) := by decide +kernel
theorem d_w_law_291 : decode code 291 = .ok (.iconst 1, 1) := by decide +kernel
theorem d_w_law_292 : decode code 292 = .ok (.goto 4, 3) := by decide +kernel
theorem d_w_law_295 : decode code 295 = .ok (.iconst 0, 1) := by decide +kernel
theorem d_w_law_296 : decode code 296 = .ok (.aload_n 3, 1) := by decide +kernel
theorem d_w_law_297 : decode code 297 = .ok (.invokestatic 79, 3) := by decide +kernel
theorem d_w_law_300 : decode code 300 = .ok (.istore 5, 2) := by decide +kernel
theorem d_w_law_302 : decode code 302 = .ok (.aload_n 2, 1) := by decide +kernel
theorem d_w_law_303 : decode code 303 = .ok (.aload_n 0, 1) := by decide +kernel
theorem d_w_law_304 : decode code 304 = .ok (.iload 4, 2) := by decide +kernel
theorem d_w_law_306 : decode code 306 = .ok (.iconst 1, 1) := by decide +kernel
theorem d_w_law_307 : decode code 307 = .ok (.iadd, 1) := by decide +kernel
theorem d_w_law_308 : decode code 308 = .ok (.iaload, 1) := by decide +kernel
theorem d_w_law_309 : decode code 309 = .ok (.aload_n 0, 1) := by decide +kernel
theorem d_w_law_310 : decode code 310 = .ok (.iload 4, 2) := by decide +kernel
theorem d_w_law_312 : decode code 312 = .ok (.iconst 2, 1) := by decide +kernel
theorem d_w_law_313 : decode code 313 = .ok (.iadd, 1) := by decide +kernel
theorem d_w_law_314 : decode code 314 = .ok (.iaload, 1) := by decide +kernel
theorem d_w_law_315 : decode code 315 = .ok (.ifCond .eq 7, 3) := by decide +kernel
theorem d_w_law_318 : decode code 318 = .ok (.iconst 1, 1) := by decide +kernel
theorem d_w_law_319 : decode code 319 = .ok (.goto 4, 3) := by decide +kernel
theorem d_w_law_322 : decode code 322 = .ok (.iconst 0, 1) := by decide +kernel
theorem d_w_law_323 : decode code 323 = .ok (.invokevirtual 82, 3) := by decide +kernel
theorem d_w_law_326 : decode code 326 = .ok (.istore 6, 2) := by decide +kernel
theorem d_w_law_328 : decode code 328 = .ok (.aload_n 2, 1) := by decide +kernel
theorem d_w_law_329 : decode code 329 = .ok (.invokevirtual 67, 3) := by decide +kernel
theorem d_w_law_332 : decode code 332 = .ok (.iload 5, 2) := by decide +kernel
theorem d_w_law_334 : decode code 334 = .ok (.if_icmp .eq 5, 3) := by decide +kernel
theorem d_w_law_337 : decode code 337 = .ok (.iconst 0, 1) := by decide +kernel
theorem d_w_law_338 : decode code 338 = .ok (.ireturn, 1) := by decide +kernel
theorem d_w_law_339 : decode code 339 = .ok (.iload 5, 2) := by decide +kernel
theorem d_w_law_341 : decode code 341 = .ok (.ifCond .ne 22, 3) := by decide +kernel
theorem d_w_law_344 : decode code 344 = .ok (.aload_n 3, 1) := by decide +kernel
theorem d_w_law_345 : decode code 345 = .ok (.iconst 0, 1) := by decide +kernel
theorem d_w_law_346 : decode code 346 = .ok (.laload, 1) := by decide +kernel
theorem d_w_law_347 : decode code 347 = .ok (.iload 6, 2) := by decide +kernel
theorem d_w_law_349 : decode code 349 = .ok (.ifCond .eq 7, 3) := by decide +kernel
theorem d_w_law_352 : decode code 352 = .ok (.lconst 1, 1) := by decide +kernel
theorem d_w_law_353 : decode code 353 = .ok (.goto 4, 3) := by decide +kernel
theorem d_w_law_356 : decode code 356 = .ok (.lconst 0, 1) := by decide +kernel
theorem d_w_law_357 : decode code 357 = .ok (.lcmp, 1) := by decide +kernel
theorem d_w_law_358 : decode code 358 = .ok (.ifCond .eq 5, 3) := by decide +kernel
theorem d_w_law_361 : decode code 361 = .ok (.iconst 0, 1) := by decide +kernel
theorem d_w_law_362 : decode code 362 = .ok (.ireturn, 1) := by decide +kernel
theorem d_w_law_363 : decode code 363 = .ok (.goto 629, 3) := by decide +kernel
theorem d_w_law_366 : decode code 366 = .ok (.aload_n 1, 1) := by decide +kernel
theorem d_w_law_367 : decode code 367 = .ok (.aload_n 0, 1) := by decide +kernel
theorem d_w_law_368 : decode code 368 = .ok (.iload 4, 2) := by decide +kernel
theorem d_w_law_370 : decode code 370 = .ok (.iconst 1, 1) := by decide +kernel
theorem d_w_law_371 : decode code 371 = .ok (.iadd, 1) := by decide +kernel
theorem d_w_law_372 : decode code 372 = .ok (.iaload, 1) := by decide +kernel
theorem d_w_law_373 : decode code 373 = .ok (.aload_n 0, 1) := by decide +kernel
theorem d_w_law_374 : decode code 374 = .ok (.iload 4, 2) := by decide +kernel
theorem d_w_law_376 : decode code 376 = .ok (.iconst 2, 1) := by decide +kernel
theorem d_w_law_377 : decode code 377 = .ok (.iadd, 1) := by decide +kernel
theorem d_w_law_378 : decode code 378 = .ok (.iaload, 1) := by decide +kernel
theorem d_w_law_379 : decode code 379 = .ok (.aload_n 0, 1) := by decide +kernel
theorem d_w_law_380 : decode code 380 = .ok (.iload 4, 2) := by decide +kernel
theorem d_w_law_382 : decode code 382 = .ok (.iconst 3, 1) := by decide +kernel
theorem d_w_law_383 : decode code 383 = .ok (.iadd, 1) := by decide +kernel
theorem d_w_law_384 : decode code 384 = .ok (.iaload, 1) := by decide +kernel
theorem d_w_law_385 : decode code 385 = .ok (.aload_n 0, 1) := by decide +kernel
theorem d_w_law_386 : decode code 386 = .ok (.iload 4, 2) := by decide +kernel
theorem d_w_law_388 : decode code 388 = .ok (.iconst 4, 1) := by decide +kernel
theorem d_w_law_389 : decode code 389 = .ok (.iadd, 1) := by decide +kernel
theorem d_w_law_390 : decode code 390 = .ok (.iaload, 1) := by decide +kernel
theorem d_w_law_391 : decode code 391 = .ok (.aload_n 3, 1) := by decide +kernel
theorem d_w_law_392 : decode code 392 = .ok (.invokestatic 83, 3) := by decide +kernel
theorem d_w_law_395 : decode code 395 = .ok (.istore 5, 2) := by decide +kernel
theorem d_w_law_397 : decode code 397 = .ok (.aload_n 2, 1) := by decide +kernel
theorem d_w_law_398 : decode code 398 = .ok (.aload_n 0, 1) := by decide +kernel
theorem d_w_law_399 : decode code 399 = .ok (.iload 4, 2) := by decide +kernel
theorem d_w_law_401 : decode code 401 = .ok (.iconst 1, 1) := by decide +kernel
theorem d_w_law_402 : decode code 402 = .ok (.iadd, 1) := by decide +kernel
theorem d_w_law_403 : decode code 403 = .ok (.iaload, 1) := by decide +kernel
theorem d_w_law_404 : decode code 404 = .ok (.aload_n 0, 1) := by decide +kernel
theorem d_w_law_405 : decode code 405 = .ok (.iload 4, 2) := by decide +kernel
theorem d_w_law_407 : decode code 407 = .ok (.iconst 2, 1) := by decide +kernel
theorem d_w_law_408 : decode code 408 = .ok (.iadd, 1) := by decide +kernel
theorem d_w_law_409 : decode code 409 = .ok (.iaload, 1) := by decide +kernel
theorem d_w_law_410 : decode code 410 = .ok (.aload_n 0, 1) := by decide +kernel
theorem d_w_law_411 : decode code 411 = .ok (.iload 4, 2) := by decide +kernel
theorem d_w_law_413 : decode code 413 = .ok (.iconst 3, 1) := by decide +kernel
theorem d_w_law_414 : decode code 414 = .ok (.iadd, 1) := by decide +kernel
theorem d_w_law_415 : decode code 415 = .ok (.iaload, 1) := by decide +kernel
theorem d_w_law_416 : decode code 416 = .ok (.aload_n 0, 1) := by decide +kernel
theorem d_w_law_417 : decode code 417 = .ok (.iload 4, 2) := by decide +kernel
theorem d_w_law_419 : decode code 419 = .ok (.iconst 4, 1) := by decide +kernel
theorem d_w_law_420 : decode code 420 = .ok (.iadd, 1) := by decide +kernel
theorem d_w_law_421 : decode code 421 = .ok (.iaload, 1) := by decide +kernel
theorem d_w_law_422 : decode code 422 = .ok (.invokevirtual 86, 3) := by decide +kernel
theorem d_w_law_425 : decode code 425 = .ok (.istore 6, 2) := by decide +kernel
theorem d_w_law_427 : decode code 427 = .ok (.aload_n 2, 1) := by decide +kernel
theorem d_w_law_428 : decode code 428 = .ok (.invokevirtual 67, 3) := by decide +kernel
theorem d_w_law_431 : decode code 431 = .ok (.iload 5, 2) := by decide +kernel
theorem d_w_law_433 : decode code 433 = .ok (.if_icmp .eq 5, 3) := by decide +kernel
theorem d_w_law_436 : decode code 436 = .ok (.iconst 0, 1) := by decide +kernel
theorem d_w_law_437 : decode code 437 = .ok (.ireturn, 1) := by decide +kernel
theorem d_w_law_438 : decode code 438 = .ok (.iload 5, 2) := by decide +kernel
theorem d_w_law_440 : decode code 440 = .ok (.ifCond .ne 15, 3) := by decide +kernel
theorem d_w_law_443 : decode code 443 = .ok (.aload_n 3, 1) := by decide +kernel
theorem d_w_law_444 : decode code 444 = .ok (.iconst 0, 1) := by decide +kernel
theorem d_w_law_445 : decode code 445 = .ok (.laload, 1) := by decide +kernel
theorem d_w_law_446 : decode code 446 = .ok (.iload 6, 2) := by decide +kernel
theorem d_w_law_448 : decode code 448 = .ok (.i2l, 1) := by decide +kernel
theorem d_w_law_449 : decode code 449 = .ok (.lcmp, 1) := by decide +kernel
theorem d_w_law_450 : decode code 450 = .ok (.ifCond .eq 5, 3) := by decide +kernel
theorem d_w_law_453 : decode code 453 = .ok (.iconst 0, 1) := by decide +kernel
theorem d_w_law_454 : decode code 454 = .ok (.ireturn, 1) := by decide +kernel
theorem d_w_law_455 : decode code 455 = .ok (.goto 537, 3) := by decide +kernel
theorem d_w_law_458 : decode code 458 = .ok (.aload_n 1, 1) := by decide +kernel
theorem d_w_law_459 : decode code 459 = .ok (.aload_n 0, 1) := by decide +kernel
theorem d_w_law_460 : decode code 460 = .ok (.iload 4, 2) := by decide +kernel
theorem d_w_law_462 : decode code 462 = .ok (.iconst 1, 1) := by decide +kernel
theorem d_w_law_463 : decode code 463 = .ok (.iadd, 1) := by decide +kernel
theorem d_w_law_464 : decode code 464 = .ok (.iaload, 1) := by decide +kernel
theorem d_w_law_465 : decode code 465 = .ok (.aload_n 0, 1) := by decide +kernel
theorem d_w_law_466 : decode code 466 = .ok (.iload 4, 2) := by decide +kernel
theorem d_w_law_468 : decode code 468 = .ok (.iconst 2, 1) := by decide +kernel
theorem d_w_law_469 : decode code 469 = .ok (.iadd, 1) := by decide +kernel
theorem d_w_law_470 : decode code 470 = .ok (.iaload, 1) := by decide +kernel
theorem d_w_law_471 : decode code 471 = .ok (.aload_n 0, 1) := by decide +kernel
theorem d_w_law_472 : decode code 472 = .ok (.iload 4, 2) := by decide +kernel
theorem d_w_law_474 : decode code 474 = .ok (.iconst 3, 1) := by decide +kernel
theorem d_w_law_475 : decode code 475 = .ok (.iadd, 1) := by decide +kernel
theorem d_w_law_476 : decode code 476 = .ok (.iaload, 1) := by decide +kernel
theorem d_w_law_477 : decode code 477 = .ok (.aload_n 0, 1) := by decide +kernel
theorem d_w_law_478 : decode code 478 = .ok (.iload 4, 2) := by decide +kernel
theorem d_w_law_480 : decode code 480 = .ok (.iconst 4, 1) := by decide +kernel
theorem d_w_law_481 : decode code 481 = .ok (.iadd, 1) := by decide +kernel
theorem d_w_law_482 : decode code 482 = .ok (.iaload, 1) := by decide +kernel
theorem d_w_law_483 : decode code 483 = .ok (.aload_n 3, 1) := by decide +kernel
theorem d_w_law_484 : decode code 484 = .ok (.invokestatic 87, 3) := by decide +kernel
theorem d_w_law_487 : decode code 487 = .ok (.istore 5, 2) := by decide +kernel
theorem d_w_law_489 : decode code 489 = .ok (.aload_n 2, 1) := by decide +kernel
theorem d_w_law_490 : decode code 490 = .ok (.aload_n 0, 1) := by decide +kernel
theorem d_w_law_491 : decode code 491 = .ok (.iload 4, 2) := by decide +kernel
theorem d_w_law_493 : decode code 493 = .ok (.iconst 1, 1) := by decide +kernel
theorem d_w_law_494 : decode code 494 = .ok (.iadd, 1) := by decide +kernel
theorem d_w_law_495 : decode code 495 = .ok (.iaload, 1) := by decide +kernel
theorem d_w_law_496 : decode code 496 = .ok (.aload_n 0, 1) := by decide +kernel
theorem d_w_law_497 : decode code 497 = .ok (.iload 4, 2) := by decide +kernel
theorem d_w_law_499 : decode code 499 = .ok (.iconst 2, 1) := by decide +kernel
theorem d_w_law_500 : decode code 500 = .ok (.iadd, 1) := by decide +kernel
theorem d_w_law_501 : decode code 501 = .ok (.iaload, 1) := by decide +kernel
theorem d_w_law_502 : decode code 502 = .ok (.aload_n 0, 1) := by decide +kernel
theorem d_w_law_503 : decode code 503 = .ok (.iload 4, 2) := by decide +kernel
theorem d_w_law_505 : decode code 505 = .ok (.iconst 3, 1) := by decide +kernel
theorem d_w_law_506 : decode code 506 = .ok (.iadd, 1) := by decide +kernel
theorem d_w_law_507 : decode code 507 = .ok (.iaload, 1) := by decide +kernel
theorem d_w_law_508 : decode code 508 = .ok (.aload_n 0, 1) := by decide +kernel
theorem d_w_law_509 : decode code 509 = .ok (.iload 4, 2) := by decide +kernel
theorem d_w_law_511 : decode code 511 = .ok (.iconst 4, 1) := by decide +kernel
theorem d_w_law_512 : decode code 512 = .ok (.iadd, 1) := by decide +kernel
theorem d_w_law_513 : decode code 513 = .ok (.iaload, 1) := by decide +kernel
theorem d_w_law_514 : decode code 514 = .ok (.invokevirtual 89, 3) := by decide +kernel
theorem d_w_law_517 : decode code 517 = .ok (.istore 6, 2) := by decide +kernel
theorem d_w_law_519 : decode code 519 = .ok (.aload_n 2, 1) := by decide +kernel
theorem d_w_law_520 : decode code 520 = .ok (.invokevirtual 67, 3) := by decide +kernel
theorem d_w_law_523 : decode code 523 = .ok (.iload 5, 2) := by decide +kernel
theorem d_w_law_525 : decode code 525 = .ok (.if_icmp .eq 5, 3) := by decide +kernel
theorem d_w_law_528 : decode code 528 = .ok (.iconst 0, 1) := by decide +kernel
theorem d_w_law_529 : decode code 529 = .ok (.ireturn, 1) := by decide +kernel
theorem d_w_law_530 : decode code 530 = .ok (.iload 5, 2) := by decide +kernel
theorem d_w_law_532 : decode code 532 = .ok (.ifCond .ne 15, 3) := by decide +kernel
theorem d_w_law_535 : decode code 535 = .ok (.aload_n 3, 1) := by decide +kernel
theorem d_w_law_536 : decode code 536 = .ok (.iconst 0, 1) := by decide +kernel
theorem d_w_law_537 : decode code 537 = .ok (.laload, 1) := by decide +kernel
theorem d_w_law_538 : decode code 538 = .ok (.iload 6, 2) := by decide +kernel
theorem d_w_law_540 : decode code 540 = .ok (.i2l, 1) := by decide +kernel
theorem d_w_law_541 : decode code 541 = .ok (.lcmp, 1) := by decide +kernel
theorem d_w_law_542 : decode code 542 = .ok (.ifCond .eq 5, 3) := by decide +kernel
theorem d_w_law_545 : decode code 545 = .ok (.iconst 0, 1) := by decide +kernel
theorem d_w_law_546 : decode code 546 = .ok (.ireturn, 1) := by decide +kernel
theorem d_w_law_547 : decode code 547 = .ok (.goto 445, 3) := by decide +kernel
theorem d_w_law_550 : decode code 550 = .ok (.aload_n 1, 1) := by decide +kernel
theorem d_w_law_551 : decode code 551 = .ok (.aload_n 0, 1) := by decide +kernel
theorem d_w_law_552 : decode code 552 = .ok (.iload 4, 2) := by decide +kernel
theorem d_w_law_554 : decode code 554 = .ok (.iconst 1, 1) := by decide +kernel
theorem d_w_law_555 : decode code 555 = .ok (.iadd, 1) := by decide +kernel
theorem d_w_law_556 : decode code 556 = .ok (.iaload, 1) := by decide +kernel
theorem d_w_law_557 : decode code 557 = .ok (.aload_n 0, 1) := by decide +kernel
theorem d_w_law_558 : decode code 558 = .ok (.iload 4, 2) := by decide +kernel
theorem d_w_law_560 : decode code 560 = .ok (.iconst 2, 1) := by decide +kernel
theorem d_w_law_561 : decode code 561 = .ok (.iadd, 1) := by decide +kernel
theorem d_w_law_562 : decode code 562 = .ok (.iaload, 1) := by decide +kernel
theorem d_w_law_563 : decode code 563 = .ok (.invokestatic 90, 3) := by decide +kernel
theorem d_w_law_566 : decode code 566 = .ok (.istore 5, 2) := by decide +kernel
theorem d_w_law_568 : decode code 568 = .ok (.aload_n 2, 1) := by decide +kernel
theorem d_w_law_569 : decode code 569 = .ok (.aload_n 0, 1) := by decide +kernel
theorem d_w_law_570 : decode code 570 = .ok (.iload 4, 2) := by decide +kernel
theorem d_w_law_572 : decode code 572 = .ok (.iconst 1, 1) := by decide +kernel
theorem d_w_law_573 : decode code 573 = .ok (.iadd, 1) := by decide +kernel
theorem d_w_law_574 : decode code 574 = .ok (.iaload, 1) := by decide +kernel
theorem d_w_law_575 : decode code 575 = .ok (.aload_n 0, 1) := by decide +kernel
theorem d_w_law_576 : decode code 576 = .ok (.iload 4, 2) := by decide +kernel
theorem d_w_law_578 : decode code 578 = .ok (.iconst 2, 1) := by decide +kernel
theorem d_w_law_579 : decode code 579 = .ok (.iadd, 1) := by decide +kernel
theorem d_w_law_580 : decode code 580 = .ok (.iaload, 1) := by decide +kernel
theorem d_w_law_581 : decode code 581 = .ok (.invokevirtual 93, 3) := by decide +kernel
theorem d_w_law_584 : decode code 584 = .ok (.aload_n 2, 1) := by decide +kernel
theorem d_w_law_585 : decode code 585 = .ok (.invokevirtual 67, 3) := by decide +kernel
theorem d_w_law_588 : decode code 588 = .ok (.iload 5, 2) := by decide +kernel
theorem d_w_law_590 : decode code 590 = .ok (.if_icmp .eq 5, 3) := by decide +kernel
theorem d_w_law_593 : decode code 593 = .ok (.iconst 0, 1) := by decide +kernel
theorem d_w_law_594 : decode code 594 = .ok (.ireturn, 1) := by decide +kernel
theorem d_w_law_595 : decode code 595 = .ok (.goto 397, 3) := by decide +kernel
theorem d_w_law_598 : decode code 598 = .ok (.aload_n 1, 1) := by decide +kernel
theorem d_w_law_599 : decode code 599 = .ok (.aload_n 0, 1) := by decide +kernel
theorem d_w_law_600 : decode code 600 = .ok (.iload 4, 2) := by decide +kernel
theorem d_w_law_602 : decode code 602 = .ok (.iconst 1, 1) := by decide +kernel
theorem d_w_law_603 : decode code 603 = .ok (.iadd, 1) := by decide +kernel
theorem d_w_law_604 : decode code 604 = .ok (.iaload, 1) := by decide +kernel
theorem d_w_law_605 : decode code 605 = .ok (.aload_n 0, 1) := by decide +kernel
theorem d_w_law_606 : decode code 606 = .ok (.iload 4, 2) := by decide +kernel
theorem d_w_law_608 : decode code 608 = .ok (.iconst 2, 1) := by decide +kernel
theorem d_w_law_609 : decode code 609 = .ok (.iadd, 1) := by decide +kernel
theorem d_w_law_610 : decode code 610 = .ok (.iaload, 1) := by decide +kernel
theorem d_w_law_611 : decode code 611 = .ok (.aload_n 0, 1) := by decide +kernel
theorem d_w_law_612 : decode code 612 = .ok (.iload 4, 2) := by decide +kernel
theorem d_w_law_614 : decode code 614 = .ok (.iconst 3, 1) := by decide +kernel
theorem d_w_law_615 : decode code 615 = .ok (.iadd, 1) := by decide +kernel
theorem d_w_law_616 : decode code 616 = .ok (.iaload, 1) := by decide +kernel
theorem d_w_law_617 : decode code 617 = .ok (.invokestatic 94, 3) := by decide +kernel
theorem d_w_law_620 : decode code 620 = .ok (.istore 5, 2) := by decide +kernel
theorem d_w_law_622 : decode code 622 = .ok (.aload_n 2, 1) := by decide +kernel
theorem d_w_law_623 : decode code 623 = .ok (.aload_n 0, 1) := by decide +kernel
theorem d_w_law_624 : decode code 624 = .ok (.iload 4, 2) := by decide +kernel
theorem d_w_law_626 : decode code 626 = .ok (.iconst 1, 1) := by decide +kernel
theorem d_w_law_627 : decode code 627 = .ok (.iadd, 1) := by decide +kernel
theorem d_w_law_628 : decode code 628 = .ok (.iaload, 1) := by decide +kernel
theorem d_w_law_629 : decode code 629 = .ok (.aload_n 0, 1) := by decide +kernel
theorem d_w_law_630 : decode code 630 = .ok (.iload 4, 2) := by decide +kernel
theorem d_w_law_632 : decode code 632 = .ok (.iconst 2, 1) := by decide +kernel
theorem d_w_law_633 : decode code 633 = .ok (.iadd, 1) := by decide +kernel
theorem d_w_law_634 : decode code 634 = .ok (.iaload, 1) := by decide +kernel
theorem d_w_law_635 : decode code 635 = .ok (.aload_n 0, 1) := by decide +kernel
theorem d_w_law_636 : decode code 636 = .ok (.iload 4, 2) := by decide +kernel
theorem d_w_law_638 : decode code 638 = .ok (.iconst 3, 1) := by decide +kernel
theorem d_w_law_639 : decode code 639 = .ok (.iadd, 1) := by decide +kernel
theorem d_w_law_640 : decode code 640 = .ok (.iaload, 1) := by decide +kernel
theorem d_w_law_641 : decode code 641 = .ok (.invokevirtual 97, 3) := by decide +kernel
theorem d_w_law_644 : decode code 644 = .ok (.aload_n 2, 1) := by decide +kernel
theorem d_w_law_645 : decode code 645 = .ok (.invokevirtual 67, 3) := by decide +kernel
theorem d_w_law_648 : decode code 648 = .ok (.iload 5, 2) := by decide +kernel
theorem d_w_law_650 : decode code 650 = .ok (.if_icmp .eq 5, 3) := by decide +kernel
theorem d_w_law_653 : decode code 653 = .ok (.iconst 0, 1) := by decide +kernel
theorem d_w_law_654 : decode code 654 = .ok (.ireturn, 1) := by decide +kernel
theorem d_w_law_655 : decode code 655 = .ok (.goto 337, 3) := by decide +kernel
theorem d_w_law_658 : decode code 658 = .ok (.aload_n 1, 1) := by decide +kernel
theorem d_w_law_659 : decode code 659 = .ok (.aload_n 0, 1) := by decide +kernel
theorem d_w_law_660 : decode code 660 = .ok (.iload 4, 2) := by decide +kernel
theorem d_w_law_662 : decode code 662 = .ok (.iconst 1, 1) := by decide +kernel
theorem d_w_law_663 : decode code 663 = .ok (.iadd, 1) := by decide +kernel
theorem d_w_law_664 : decode code 664 = .ok (.iaload, 1) := by decide +kernel
theorem d_w_law_665 : decode code 665 = .ok (.aload_n 0, 1) := by decide +kernel
theorem d_w_law_666 : decode code 666 = .ok (.iload 4, 2) := by decide +kernel
theorem d_w_law_668 : decode code 668 = .ok (.iconst 2, 1) := by decide +kernel
theorem d_w_law_669 : decode code 669 = .ok (.iadd, 1) := by decide +kernel
theorem d_w_law_670 : decode code 670 = .ok (.iaload, 1) := by decide +kernel
theorem d_w_law_671 : decode code 671 = .ok (.invokevirtual 98, 3) := by decide +kernel
theorem d_w_law_674 : decode code 674 = .ok (.aload_n 2, 1) := by decide +kernel
theorem d_w_law_675 : decode code 675 = .ok (.aload_n 0, 1) := by decide +kernel
theorem d_w_law_676 : decode code 676 = .ok (.iload 4, 2) := by decide +kernel
theorem d_w_law_678 : decode code 678 = .ok (.iconst 1, 1) := by decide +kernel
theorem d_w_law_679 : decode code 679 = .ok (.iadd, 1) := by decide +kernel
theorem d_w_law_680 : decode code 680 = .ok (.iaload, 1) := by decide +kernel
theorem d_w_law_681 : decode code 681 = .ok (.aload_n 0, 1) := by decide +kernel
theorem d_w_law_682 : decode code 682 = .ok (.iload 4, 2) := by decide +kernel
theorem d_w_law_684 : decode code 684 = .ok (.iconst 2, 1) := by decide +kernel
theorem d_w_law_685 : decode code 685 = .ok (.iadd, 1) := by decide +kernel
theorem d_w_law_686 : decode code 686 = .ok (.iaload, 1) := by decide +kernel
theorem d_w_law_687 : decode code 687 = .ok (.invokevirtual 101, 3) := by decide +kernel
theorem d_w_law_690 : decode code 690 = .ok (.if_icmp .eq 302, 3) := by decide +kernel
theorem d_w_law_693 : decode code 693 = .ok (.iconst 0, 1) := by decide +kernel
theorem d_w_law_694 : decode code 694 = .ok (.ireturn, 1) := by decide +kernel
theorem d_w_law_695 : decode code 695 = .ok (.aload_n 1, 1) := by decide +kernel
theorem d_w_law_696 : decode code 696 = .ok (.aload_n 0, 1) := by decide +kernel
theorem d_w_law_697 : decode code 697 = .ok (.iload 4, 2) := by decide +kernel
theorem d_w_law_699 : decode code 699 = .ok (.iconst 1, 1) := by decide +kernel
theorem d_w_law_700 : decode code 700 = .ok (.iadd, 1) := by decide +kernel
theorem d_w_law_701 : decode code 701 = .ok (.iaload, 1) := by decide +kernel
theorem d_w_law_702 : decode code 702 = .ok (.aload_n 0, 1) := by decide +kernel
theorem d_w_law_703 : decode code 703 = .ok (.iload 4, 2) := by decide +kernel
theorem d_w_law_705 : decode code 705 = .ok (.iconst 2, 1) := by decide +kernel
theorem d_w_law_706 : decode code 706 = .ok (.iadd, 1) := by decide +kernel
theorem d_w_law_707 : decode code 707 = .ok (.iaload, 1) := by decide +kernel
theorem d_w_law_708 : decode code 708 = .ok (.aload_n 0, 1) := by decide +kernel
theorem d_w_law_709 : decode code 709 = .ok (.iload 4, 2) := by decide +kernel
theorem d_w_law_711 : decode code 711 = .ok (.iconst 3, 1) := by decide +kernel
theorem d_w_law_712 : decode code 712 = .ok (.iadd, 1) := by decide +kernel
theorem d_w_law_713 : decode code 713 = .ok (.iaload, 1) := by decide +kernel
theorem d_w_law_714 : decode code 714 = .ok (.aload_n 3, 1) := by decide +kernel
theorem d_w_law_715 : decode code 715 = .ok (.invokestatic 102, 3) := by decide +kernel
theorem d_w_law_718 : decode code 718 = .ok (.istore 5, 2) := by decide +kernel
theorem d_w_law_720 : decode code 720 = .ok (.aload_n 2, 1) := by decide +kernel
theorem d_w_law_721 : decode code 721 = .ok (.aload_n 0, 1) := by decide +kernel
theorem d_w_law_722 : decode code 722 = .ok (.iload 4, 2) := by decide +kernel
theorem d_w_law_724 : decode code 724 = .ok (.iconst 1, 1) := by decide +kernel
theorem d_w_law_725 : decode code 725 = .ok (.iadd, 1) := by decide +kernel
theorem d_w_law_726 : decode code 726 = .ok (.iaload, 1) := by decide +kernel
theorem d_w_law_727 : decode code 727 = .ok (.aload_n 0, 1) := by decide +kernel
theorem d_w_law_728 : decode code 728 = .ok (.iload 4, 2) := by decide +kernel
theorem d_w_law_730 : decode code 730 = .ok (.iconst 2, 1) := by decide +kernel
theorem d_w_law_731 : decode code 731 = .ok (.iadd, 1) := by decide +kernel
theorem d_w_law_732 : decode code 732 = .ok (.iaload, 1) := by decide +kernel
theorem d_w_law_733 : decode code 733 = .ok (.aload_n 0, 1) := by decide +kernel
theorem d_w_law_734 : decode code 734 = .ok (.iload 4, 2) := by decide +kernel
theorem d_w_law_736 : decode code 736 = .ok (.iconst 3, 1) := by decide +kernel
theorem d_w_law_737 : decode code 737 = .ok (.iadd, 1) := by decide +kernel
theorem d_w_law_738 : decode code 738 = .ok (.iaload, 1) := by decide +kernel
theorem d_w_law_739 : decode code 739 = .ok (.invokevirtual 105, 3) := by decide +kernel
theorem d_w_law_742 : decode code 742 = .ok (.istore 6, 2) := by decide +kernel
theorem d_w_law_744 : decode code 744 = .ok (.aload_n 2, 1) := by decide +kernel
theorem d_w_law_745 : decode code 745 = .ok (.invokevirtual 67, 3) := by decide +kernel
theorem d_w_law_748 : decode code 748 = .ok (.iload 5, 2) := by decide +kernel
theorem d_w_law_750 : decode code 750 = .ok (.if_icmp .eq 5, 3) := by decide +kernel
theorem d_w_law_753 : decode code 753 = .ok (.iconst 0, 1) := by decide +kernel
theorem d_w_law_754 : decode code 754 = .ok (.ireturn, 1) := by decide +kernel
theorem d_w_law_755 : decode code 755 = .ok (.iload 5, 2) := by decide +kernel
theorem d_w_law_757 : decode code 757 = .ok (.ifCond .ne 22, 3) := by decide +kernel
theorem d_w_law_760 : decode code 760 = .ok (.aload_n 3, 1) := by decide +kernel
theorem d_w_law_761 : decode code 761 = .ok (.iconst 0, 1) := by decide +kernel
theorem d_w_law_762 : decode code 762 = .ok (.laload, 1) := by decide +kernel
theorem d_w_law_763 : decode code 763 = .ok (.iload 6, 2) := by decide +kernel
theorem d_w_law_765 : decode code 765 = .ok (.ifCond .eq 7, 3) := by decide +kernel
theorem d_w_law_768 : decode code 768 = .ok (.lconst 1, 1) := by decide +kernel
theorem d_w_law_769 : decode code 769 = .ok (.goto 4, 3) := by decide +kernel
theorem d_w_law_772 : decode code 772 = .ok (.lconst 0, 1) := by decide +kernel
theorem d_w_law_773 : decode code 773 = .ok (.lcmp, 1) := by decide +kernel
theorem d_w_law_774 : decode code 774 = .ok (.ifCond .eq 5, 3) := by decide +kernel
theorem d_w_law_777 : decode code 777 = .ok (.iconst 0, 1) := by decide +kernel
theorem d_w_law_778 : decode code 778 = .ok (.ireturn, 1) := by decide +kernel
theorem d_w_law_779 : decode code 779 = .ok (.goto 213, 3) := by decide +kernel
theorem d_w_law_782 : decode code 782 = .ok (.aload_n 1, 1) := by decide +kernel
theorem d_w_law_783 : decode code 783 = .ok (.aload_n 0, 1) := by decide +kernel
theorem d_w_law_784 : decode code 784 = .ok (.iload 4, 2) := by decide +kernel
theorem d_w_law_786 : decode code 786 = .ok (.iconst 1, 1) := by decide +kernel
theorem d_w_law_787 : decode code 787 = .ok (.iadd, 1) := by decide +kernel
theorem d_w_law_788 : decode code 788 = .ok (.iaload, 1) := by decide +kernel
theorem d_w_law_789 : decode code 789 = .ok (.aload_n 0, 1) := by decide +kernel
theorem d_w_law_790 : decode code 790 = .ok (.iload 4, 2) := by decide +kernel
theorem d_w_law_792 : decode code 792 = .ok (.iconst 2, 1) := by decide +kernel
theorem d_w_law_793 : decode code 793 = .ok (.iadd, 1) := by decide +kernel
theorem d_w_law_794 : decode code 794 = .ok (.iaload, 1) := by decide +kernel
theorem d_w_law_795 : decode code 795 = .ok (.aload_n 3, 1) := by decide +kernel
theorem d_w_law_796 : decode code 796 = .ok (.invokestatic 106, 3) := by decide +kernel
theorem d_w_law_799 : decode code 799 = .ok (.istore 5, 2) := by decide +kernel
theorem d_w_law_801 : decode code 801 = .ok (.aload_n 2, 1) := by decide +kernel
theorem d_w_law_802 : decode code 802 = .ok (.aload_n 0, 1) := by decide +kernel
theorem d_w_law_803 : decode code 803 = .ok (.iload 4, 2) := by decide +kernel
theorem d_w_law_805 : decode code 805 = .ok (.iconst 1, 1) := by decide +kernel
theorem d_w_law_806 : decode code 806 = .ok (.iadd, 1) := by decide +kernel
theorem d_w_law_807 : decode code 807 = .ok (.iaload, 1) := by decide +kernel
theorem d_w_law_808 : decode code 808 = .ok (.aload_n 0, 1) := by decide +kernel
theorem d_w_law_809 : decode code 809 = .ok (.iload 4, 2) := by decide +kernel
theorem d_w_law_811 : decode code 811 = .ok (.iconst 2, 1) := by decide +kernel
theorem d_w_law_812 : decode code 812 = .ok (.iadd, 1) := by decide +kernel
theorem d_w_law_813 : decode code 813 = .ok (.iaload, 1) := by decide +kernel
theorem d_w_law_814 : decode code 814 = .ok (.invokevirtual 109, 3) := by decide +kernel
theorem d_w_law_817 : decode code 817 = .ok (.istore 6, 2) := by decide +kernel
theorem d_w_law_819 : decode code 819 = .ok (.aload_n 2, 1) := by decide +kernel
theorem d_w_law_820 : decode code 820 = .ok (.invokevirtual 67, 3) := by decide +kernel
theorem d_w_law_823 : decode code 823 = .ok (.iload 5, 2) := by decide +kernel
theorem d_w_law_825 : decode code 825 = .ok (.if_icmp .eq 5, 3) := by decide +kernel
theorem d_w_law_828 : decode code 828 = .ok (.iconst 0, 1) := by decide +kernel
theorem d_w_law_829 : decode code 829 = .ok (.ireturn, 1) := by decide +kernel
theorem d_w_law_830 : decode code 830 = .ok (.iload 5, 2) := by decide +kernel
theorem d_w_law_832 : decode code 832 = .ok (.ifCond .ne 15, 3) := by decide +kernel
theorem d_w_law_835 : decode code 835 = .ok (.aload_n 3, 1) := by decide +kernel
theorem d_w_law_836 : decode code 836 = .ok (.iconst 0, 1) := by decide +kernel
theorem d_w_law_837 : decode code 837 = .ok (.laload, 1) := by decide +kernel
theorem d_w_law_838 : decode code 838 = .ok (.iload 6, 2) := by decide +kernel
theorem d_w_law_840 : decode code 840 = .ok (.i2l, 1) := by decide +kernel
theorem d_w_law_841 : decode code 841 = .ok (.lcmp, 1) := by decide +kernel
theorem d_w_law_842 : decode code 842 = .ok (.ifCond .eq 5, 3) := by decide +kernel
theorem d_w_law_845 : decode code 845 = .ok (.iconst 0, 1) := by decide +kernel
theorem d_w_law_846 : decode code 846 = .ok (.ireturn, 1) := by decide +kernel
theorem d_w_law_847 : decode code 847 = .ok (.goto 145, 3) := by decide +kernel
theorem d_w_law_850 : decode code 850 = .ok (.aload_n 1, 1) := by decide +kernel
theorem d_w_law_851 : decode code 851 = .ok (.aload_n 0, 1) := by decide +kernel
theorem d_w_law_852 : decode code 852 = .ok (.iload 4, 2) := by decide +kernel
theorem d_w_law_854 : decode code 854 = .ok (.iconst 1, 1) := by decide +kernel
theorem d_w_law_855 : decode code 855 = .ok (.iadd, 1) := by decide +kernel
theorem d_w_law_856 : decode code 856 = .ok (.iaload, 1) := by decide +kernel
theorem d_w_law_857 : decode code 857 = .ok (.aload_n 0, 1) := by decide +kernel
theorem d_w_law_858 : decode code 858 = .ok (.iload 4, 2) := by decide +kernel
theorem d_w_law_860 : decode code 860 = .ok (.iconst 2, 1) := by decide +kernel
theorem d_w_law_861 : decode code 861 = .ok (.iadd, 1) := by decide +kernel
theorem d_w_law_862 : decode code 862 = .ok (.iaload, 1) := by decide +kernel
theorem d_w_law_863 : decode code 863 = .ok (.aload_n 0, 1) := by decide +kernel
theorem d_w_law_864 : decode code 864 = .ok (.iload 4, 2) := by decide +kernel
theorem d_w_law_866 : decode code 866 = .ok (.iconst 3, 1) := by decide +kernel
theorem d_w_law_867 : decode code 867 = .ok (.iadd, 1) := by decide +kernel
theorem d_w_law_868 : decode code 868 = .ok (.iaload, 1) := by decide +kernel
theorem d_w_law_869 : decode code 869 = .ok (.aload_n 3, 1) := by decide +kernel
theorem d_w_law_870 : decode code 870 = .ok (.invokestatic 110, 3) := by decide +kernel
theorem d_w_law_873 : decode code 873 = .ok (.istore 5, 2) := by decide +kernel
theorem d_w_law_875 : decode code 875 = .ok (.aload_n 2, 1) := by decide +kernel
theorem d_w_law_876 : decode code 876 = .ok (.aload_n 0, 1) := by decide +kernel
theorem d_w_law_877 : decode code 877 = .ok (.iload 4, 2) := by decide +kernel
theorem d_w_law_879 : decode code 879 = .ok (.iconst 1, 1) := by decide +kernel
theorem d_w_law_880 : decode code 880 = .ok (.iadd, 1) := by decide +kernel
theorem d_w_law_881 : decode code 881 = .ok (.iaload, 1) := by decide +kernel
theorem d_w_law_882 : decode code 882 = .ok (.aload_n 0, 1) := by decide +kernel
theorem d_w_law_883 : decode code 883 = .ok (.iload 4, 2) := by decide +kernel
theorem d_w_law_885 : decode code 885 = .ok (.iconst 2, 1) := by decide +kernel
theorem d_w_law_886 : decode code 886 = .ok (.iadd, 1) := by decide +kernel
theorem d_w_law_887 : decode code 887 = .ok (.iaload, 1) := by decide +kernel
theorem d_w_law_888 : decode code 888 = .ok (.aload_n 0, 1) := by decide +kernel
theorem d_w_law_889 : decode code 889 = .ok (.iload 4, 2) := by decide +kernel
theorem d_w_law_891 : decode code 891 = .ok (.iconst 3, 1) := by decide +kernel
theorem d_w_law_892 : decode code 892 = .ok (.iadd, 1) := by decide +kernel
theorem d_w_law_893 : decode code 893 = .ok (.iaload, 1) := by decide +kernel
theorem d_w_law_894 : decode code 894 = .ok (.invokevirtual 112, 3) := by decide +kernel
theorem d_w_law_897 : decode code 897 = .ok (.istore 6, 2) := by decide +kernel
theorem d_w_law_899 : decode code 899 = .ok (.aload_n 2, 1) := by decide +kernel
theorem d_w_law_900 : decode code 900 = .ok (.invokevirtual 67, 3) := by decide +kernel
theorem d_w_law_903 : decode code 903 = .ok (.iload 5, 2) := by decide +kernel
theorem d_w_law_905 : decode code 905 = .ok (.if_icmp .eq 5, 3) := by decide +kernel
theorem d_w_law_908 : decode code 908 = .ok (.iconst 0, 1) := by decide +kernel
theorem d_w_law_909 : decode code 909 = .ok (.ireturn, 1) := by decide +kernel
theorem d_w_law_910 : decode code 910 = .ok (.iload 5, 2) := by decide +kernel
theorem d_w_law_912 : decode code 912 = .ok (.ifCond .ne 15, 3) := by decide +kernel
theorem d_w_law_915 : decode code 915 = .ok (.aload_n 3, 1) := by decide +kernel
theorem d_w_law_916 : decode code 916 = .ok (.iconst 0, 1) := by decide +kernel
theorem d_w_law_917 : decode code 917 = .ok (.laload, 1) := by decide +kernel
theorem d_w_law_918 : decode code 918 = .ok (.iload 6, 2) := by decide +kernel
theorem d_w_law_920 : decode code 920 = .ok (.i2l, 1) := by decide +kernel
theorem d_w_law_921 : decode code 921 = .ok (.lcmp, 1) := by decide +kernel
theorem d_w_law_922 : decode code 922 = .ok (.ifCond .eq 5, 3) := by decide +kernel
theorem d_w_law_925 : decode code 925 = .ok (.iconst 0, 1) := by decide +kernel
theorem d_w_law_926 : decode code 926 = .ok (.ireturn, 1) := by decide +kernel
theorem d_w_law_927 : decode code 927 = .ok (.goto 65, 3) := by decide +kernel
theorem d_w_law_930 : decode code 930 = .ok (.aload_n 1, 1) := by decide +kernel
theorem d_w_law_931 : decode code 931 = .ok (.aload_n 0, 1) := by decide +kernel
theorem d_w_law_932 : decode code 932 = .ok (.iload 4, 2) := by decide +kernel
theorem d_w_law_934 : decode code 934 = .ok (.iconst 1, 1) := by decide +kernel
theorem d_w_law_935 : decode code 935 = .ok (.iadd, 1) := by decide +kernel
theorem d_w_law_936 : decode code 936 = .ok (.iaload, 1) := by decide +kernel
theorem d_w_law_937 : decode code 937 = .ok (.invokevirtual 113, 3) := by decide +kernel
theorem d_w_law_940 : decode code 940 = .ok (.aload_n 2, 1) := by decide +kernel
theorem d_w_law_941 : decode code 941 = .ok (.aload_n 0, 1) := by decide +kernel
theorem d_w_law_942 : decode code 942 = .ok (.iload 4, 2) := by decide +kernel
theorem d_w_law_944 : decode code 944 = .ok (.iconst 1, 1) := by decide +kernel
theorem d_w_law_945 : decode code 945 = .ok (.iadd, 1) := by decide +kernel
theorem d_w_law_946 : decode code 946 = .ok (.iaload, 1) := by decide +kernel
theorem d_w_law_947 : decode code 947 = .ok (.invokevirtual 116, 3) := by decide +kernel
theorem d_w_law_950 : decode code 950 = .ok (.if_icmp .eq 42, 3) := by decide +kernel
theorem d_w_law_953 : decode code 953 = .ok (.iconst 0, 1) := by decide +kernel
theorem d_w_law_954 : decode code 954 = .ok (.ireturn, 1) := by decide +kernel
theorem d_w_law_955 : decode code 955 = .ok (.aload_n 1, 1) := by decide +kernel
theorem d_w_law_956 : decode code 956 = .ok (.aload_n 0, 1) := by decide +kernel
theorem d_w_law_957 : decode code 957 = .ok (.iload 4, 2) := by decide +kernel
theorem d_w_law_959 : decode code 959 = .ok (.iconst 1, 1) := by decide +kernel
theorem d_w_law_960 : decode code 960 = .ok (.iadd, 1) := by decide +kernel
theorem d_w_law_961 : decode code 961 = .ok (.iaload, 1) := by decide +kernel
theorem d_w_law_962 : decode code 962 = .ok (.aload_n 0, 1) := by decide +kernel
theorem d_w_law_963 : decode code 963 = .ok (.iload 4, 2) := by decide +kernel
theorem d_w_law_965 : decode code 965 = .ok (.iconst 2, 1) := by decide +kernel
theorem d_w_law_966 : decode code 966 = .ok (.iadd, 1) := by decide +kernel
theorem d_w_law_967 : decode code 967 = .ok (.iaload, 1) := by decide +kernel
theorem d_w_law_968 : decode code 968 = .ok (.invokevirtual 117, 3) := by decide +kernel
theorem d_w_law_971 : decode code 971 = .ok (.aload_n 2, 1) := by decide +kernel
theorem d_w_law_972 : decode code 972 = .ok (.aload_n 0, 1) := by decide +kernel
theorem d_w_law_973 : decode code 973 = .ok (.iload 4, 2) := by decide +kernel
theorem d_w_law_975 : decode code 975 = .ok (.iconst 1, 1) := by decide +kernel
theorem d_w_law_976 : decode code 976 = .ok (.iadd, 1) := by decide +kernel
theorem d_w_law_977 : decode code 977 = .ok (.iaload, 1) := by decide +kernel
theorem d_w_law_978 : decode code 978 = .ok (.aload_n 0, 1) := by decide +kernel
theorem d_w_law_979 : decode code 979 = .ok (.iload 4, 2) := by decide +kernel
theorem d_w_law_981 : decode code 981 = .ok (.iconst 2, 1) := by decide +kernel
theorem d_w_law_982 : decode code 982 = .ok (.iadd, 1) := by decide +kernel
theorem d_w_law_983 : decode code 983 = .ok (.iaload, 1) := by decide +kernel
theorem d_w_law_984 : decode code 984 = .ok (.invokevirtual 120, 3) := by decide +kernel
theorem d_w_law_987 : decode code 987 = .ok (.if_icmp .eq 5, 3) := by decide +kernel
theorem d_w_law_990 : decode code 990 = .ok (.iconst 0, 1) := by decide +kernel
theorem d_w_law_991 : decode code 991 = .ok (.ireturn, 1) := by decide +kernel
theorem d_w_law_992 : decode code 992 = .ok (.iinc 4 5, 3) := by decide +kernel
theorem d_w_law_995 : decode code 995 = .ok (.goto (-972), 3) := by decide +kernel
theorem d_w_law_998 : decode code 998 = .ok (.iconst 1, 1) := by decide +kernel
theorem d_w_law_999 : decode code 999 = .ok (.ireturn, 1) := by decide +kernel
