def sgL : List Int32 := [123, 125, 58, 59, 44, 126, 42, 45]
def sgb (i : Nat) : Int32 := sgL.getD i 0
section STA
variable {p : Program} {l : Launch} {e : Env} {R : Room} {s : State} {m : MethodId} {args : Array Value} {below : List Frame} {meth : Method} {c : Code} {H : Heap} {locs : List Loc} {cells slots : Nat} {Q : State → Prop}
variable {cc : ByteArray} {pc : Nat} {ls : Array Slot} {rest : List Value} {D : va_G} {cA : Nat → ClassId} {b : Nat} {ad : Nat → Nat} {own : String} {idx : Nat}
theorem st_W {i : Nat} (hx : p.tables.exec = Jvm.exec) (hb : c.code = cc) (hC : Cx D cA b ad s) (hS : va_S (Ab b) s.heap H locs) (hown : s.vm.findClass own = some m.cls) (hl : (Cond.fieldLink own idx "TypeGuard$Word" (wnL.getD i "") "LTypeGuard$Word;").before args s = true) (hdg : decode cc pc = .ok (.getstatic idx, 3)) (hi : i < 15) (kk : W p l e R s m args below meth c H locs cells slots Q (F0 m (pc + 3) ls (.ref (ad i) :: rest))) : W p l e R s m args below meth c H locs cells slots Q (F0 m pc ls rest) :=
  va_gets hx hb (hC.2.2.2.1.1.1 i hi).1 hS hown hl (fun _ h9 => h9) hdg kk
theorem st_ALL (hx : p.tables.exec = Jvm.exec) (hb : c.code = cc) (hC : Cx D cA b ad s) (hS : va_S (Ab b) s.heap H locs) (hown : s.vm.findClass own = some m.cls) (hl : (Cond.fieldLink own idx "TypeGuard$Word" "ALL" "[LTypeGuard$Word;").before args s = true) (hdg : decode cc pc = .ok (.getstatic idx, 3)) (kk : W p l e R s m args below meth c H locs cells slots Q (F0 m (pc + 3) ls (.ref (ad 15) :: rest))) : W p l e R s m args below meth c H locs cells slots Q (F0 m pc ls rest) :=
  va_gets hx hb hC.2.2.2.1.2.2.1 hS hown hl (fun _ h9 => h9) hdg kk
theorem st_SW (hx : p.tables.exec = Jvm.exec) (hb : c.code = cc) (hC : Cx D cA b ad s) (hS : va_S (Ab b) s.heap H locs) (hown : s.vm.findClass own = some m.cls) (hl : (Cond.fieldLink own idx "TypeGuard$1" "$SwitchMap$TypeGuard$Word" "[I").before args s = true) (hdg : decode cc pc = .ok (.getstatic idx, 3)) (kk : W p l e R s m args below meth c H locs cells slots Q (F0 m (pc + 3) ls (.ref (ad 16) :: rest))) : W p l e R s m args below meth c H locs cells slots Q (F0 m pc ls rest) :=
  va_gets hx hb hC.2.2.2.1.2.2.2.2.1 hS hown hl (fun _ h9 => h9) hdg kk
theorem st_cs (hx : p.tables.exec = Jvm.exec) (hb : c.code = cc) (hC : Cx D cA b ad s) (hS : va_S (Ab b) s.heap H locs) (hown : s.vm.findClass own = some m.cls) (hl : (Cond.fieldLink own idx "java/lang/String" "COMPACT_STRINGS" "Z").before args s = true) (hdg : decode cc pc = .ok (.getstatic idx, 3)) (kk : W p l e R s m args below meth c H locs cells slots Q (F0 m (pc + 3) ls (.int (bI true) :: rest))) : W p l e R s m args below meth c H locs cells slots Q (F0 m pc ls rest) :=
  va_gets hx hb hC.2.2.2.1.2.2.2.2.2.2.2.2.1 hS hown hl (fun _ h9 => h9) hdg kk
theorem st_alen (hx : p.tables.exec = Jvm.exec) (hb : c.code = cc) (hC : Cx D cA b ad s) (hS : va_S (Ab b) s.heap H locs) (hdg : decode cc pc = .ok (.arraylength, 1)) (kk : W p l e R s m args below meth c H locs cells slots Q (F0 m (pc + 1) ls (.int 15 :: rest))) : W p l e R s m args below meth c H locs cells slots Q (F0 m pc ls (.ref (ad 15) :: rest)) :=
  va_tlen hx hb hC.2.2.2.1.2.2.2.1 hS rfl hdg kk
theorem st_blen (hx : p.tables.exec = Jvm.exec) (hb : c.code = cc) (hC : Cx D cA b ad s) (hS : va_S (Ab b) s.heap H locs) (hdg : decode cc pc = .ok (.arraylength, 1)) (kk : W p l e R s m args below meth c H locs cells slots Q (F0 m (pc + 1) ls (.int 8 :: rest))) : W p l e R s m args below meth c H locs cells slots Q (F0 m pc ls (.ref (ad 18) :: rest)) :=
  va_tlen hx hb (hC.2.2.2.1.2.2.2.2.2.2.2.2.2.1 0 (by decide)).2.2.2 hS rfl hdg kk
theorem st_bald (hx : p.tables.exec = Jvm.exec) (hb : c.code = cc) (hC : Cx D cA b ad s) (hS : va_S (Ab b) s.heap H locs) {i : Int32} (hg : inbd i 8 = true) (hdg : decode cc pc = .ok (.baload, 1)) (kk : W p l e R s m args below meth c H locs cells slots Q (F0 m (pc + 1) ls (.int (sgb (txN i)) :: rest))) : W p l e R s m args below meth c H locs cells slots Q (F0 m pc ls (.int i :: .ref (ad 18) :: rest)) :=
  va_tb hx hb (hC.2.2.2.1.2.2.2.2.2.2.2.2.2.1 0 (by decide)).2.2.2 hS (inbd_in hg) rfl hdg kk
theorem st_all (hx : p.tables.exec = Jvm.exec) (hb : c.code = cc) (hC : Cx D cA b ad s) (hS : va_S (Ab b) s.heap H locs) {i : Int32} (hg : inbd i 15 = true) (hdg : decode cc pc = .ok (.aaload, 1)) (kk : W p l e R s m args below meth c H locs cells slots Q (F0 m (pc + 1) ls (.ref (ad (txN i)) :: rest))) : W p l e R s m args below meth c H locs cells slots Q (F0 m pc ls (.int i :: .ref (ad 15) :: rest)) :=
  vb_tq hx hb hC.2.2.2.1.2.2.2.1 hS (inbd_in hg) rfl hdg kk
theorem st_swm (hx : p.tables.exec = Jvm.exec) (hb : c.code = cc) (hC : Cx D cA b ad s) (hS : va_S (Ab b) s.heap H locs) {i : Int32} (hg : inbd i 15 = true) (hdg : decode cc pc = .ok (.iaload, 1)) (kk : W p l e R s m args below meth c H locs cells slots Q (F0 m (pc + 1) ls (.int (swm i) :: rest))) : W p l e R s m args below meth c H locs cells slots Q (F0 m pc ls (.int i :: .ref (ad 16) :: rest)) :=
  va_ti hx hb hC.2.2.2.1.2.2.2.2.2.1 hS (inbd_in hg) rfl hdg kk
theorem st_code (hx : p.tables.exec = Jvm.exec) (hb : c.code = cc) (hC : Cx D cA b ad s) (hS : va_S (Ab b) s.heap H locs) (hown : s.vm.findClass own = some m.cls) {i : Nat} (hi : i < 15) (hl : (Cond.fieldLink own idx "TypeGuard$Word" "code" "J").before args s = true) (hdg : decode cc pc = .ok (.getfield idx, 3)) (kk : W p l e R s m args below meth c H locs cells slots Q (F0 m (pc + 3) ls (.long (wC i) :: rest))) : W p l e R s m args below meth c H locs cells slots Q (F0 m pc ls (.ref (ad i) :: rest)) :=
  va_getX hx hb hC.2.2.2.1.2.1 hi hS hown hl (fun _ h9 => h9) hdg kk
theorem st_codeN {host : String} (hx : p.tables.exec = Jvm.exec) (hb : c.code = cc) (hC : Cx D cA b ad s) (hS : va_S (Ab b) s.heap H locs) (hown : s.vm.findClass own = some m.cls) {i : Nat} (hi : i < 15) (hl : (Cond.fieldLinkNest own idx "TypeGuard$Word" "code" "J" host).before args s = true) (hdg : decode cc pc = .ok (.getfield idx, 3)) (kk : W p l e R s m args below meth c H locs cells slots Q (F0 m (pc + 3) ls (.long (wC i) :: rest))) : W p l e R s m args below meth c H locs cells slots Q (F0 m pc ls (.ref (ad i) :: rest)) := by
  obtain ⟨cf, k, fi, f, cell, h1, h2, h3, h4, h5, h6⟩ := (hC.2.2.2.1.2.1 i hi).kept hS.2.1
  exact va_Wgetf hx hb hown hl h1 h2 h3 h4 h5 rfl rfl hdg kk
theorem st_str (hx : p.tables.exec = Jvm.exec) (hb : c.code = cc) (hC : Cx D cA b ad s) (hS : va_S (Ab b) s.heap H locs) (hown : s.vm.findClass "TypeGuard$Tokens" = some m.cls) (hdg : decode cc pc = .ok (.ldc 65, 2)) (kk : W p l e R s m args below meth c H locs cells slots Q (F0 m (pc + 2) ls (.ref (ad 17) :: rest))) : W p l e R s m args below meth c H locs cells slots Q (F0 m pc ls rest) :=
  va_ldcS hx hb hown hC.2.2.2.2 hdg kk
theorem st_sval (hx : p.tables.exec = Jvm.exec) (hb : c.code = cc) (hC : Cx D cA b ad s) (hS : va_S (Ab b) s.heap H locs) (hown : s.vm.findClass own = some m.cls) (hl : (Cond.fieldLink own idx "java/lang/String" "value" "[B").before args s = true) (hdg : decode cc pc = .ok (.getfield idx, 3)) (kk : W p l e R s m args below meth c H locs cells slots Q (F0 m (pc + 3) ls (.ref (ad 18) :: rest))) : W p l e R s m args below meth c H locs cells slots Q (F0 m pc ls (.ref (ad 17) :: rest)) := by
  obtain ⟨cf, k, fi, f, cell, h1, h2, h3, h4, h5, h6⟩ := (hC.2.2.2.1.2.2.2.2.2.2.2.2.2.1 0 (by decide)).2.2.1.kept hS.2.1
  exact W.getf hx hb hown hl h1 h2 h3 h4 h5 rfl rfl hdg kk
theorem st_scod (hx : p.tables.exec = Jvm.exec) (hb : c.code = cc) (hC : Cx D cA b ad s) (hS : va_S (Ab b) s.heap H locs) (hown : s.vm.findClass own = some m.cls) (hl : (Cond.fieldLink own idx "java/lang/String" "coder" "B").before args s = true) (hdg : decode cc pc = .ok (.getfield idx, 3)) (kk : W p l e R s m args below meth c H locs cells slots Q (F0 m (pc + 3) ls (.int 0 :: rest))) : W p l e R s m args below meth c H locs cells slots Q (F0 m pc ls (.ref (ad 17) :: rest)) := by
  obtain ⟨cf, k, fi, f, cell, h1, h2, h3, h4, h5, h6⟩ := (hC.2.2.2.1.2.2.2.2.2.2.2.2.2.1 0 (by decide)).2.1.kept hS.2.1
  exact W.getf hx hb hown hl h1 h2 h3 h4 h5 rfl rfl hdg kk
theorem hrc_str (hC : Cx D cA b ad s) (hS : va_S (Ab b) s.heap H locs) : ∃ cell : Cell, H[ad 17]? = some cell ∧ cell.vm.isStatics = false ∧ s.vm.findClass "java/lang/String" = some cell.cls := by
  obtain ⟨cell, h1, h2, h3, h4⟩ := (hC.2.2.2.1.2.2.2.2.2.2.2.2.2.1 0 (by decide)).1.kept hS.2.1
  exact ⟨cell, h1, h2, h3⟩
theorem hrc_w (hC : Cx D cA b ad s) (hS : va_S (Ab b) s.heap H locs) {i : Nat} (hi : i < 15) : ∃ cell : Cell, H[ad i]? = some cell ∧ cell.vm.isStatics = false ∧ s.vm.findClass "TypeGuard$Word" = some cell.cls := by
  obtain ⟨cell, h1, h2, h3, h4⟩ := (hC.2.2.2.1.1.1 i hi).2.1.kept hS.2.1
  exact ⟨cell, h1, h2, h3⟩
/-- a method's contract out of the walk of its body -/
theorem Ct_ofF {y : MethodName} {maxL : Nat} {ret : Option FieldType} {rm : Room} {as : List Value} {S : ST} {Qc : Array Value → State → Outcome → State → Prop} (hy : plainFor y = true) (hn : (lg_sl as).length ≤ maxL)
    (body : ∀ (p : Program) (e : Env) (R : Room) (s : State) (m : MethodId) (args : Array Value) (below : List Frame) (meth : Method) (c : Code) (ls : Array Slot) (Q : State → Prop) (H : Heap) (locs : List Loc), R = rm → Q = MQ below Qc args s 0 0 (Ab b) → p.tables.exec = Jvm.exec → c.code = cc → (∀ w ∈ TW, w.before args s = true) → s.vm.findClass y.cls = some m.cls → c.maxLocals = maxL → meth.sig.returnType = ret → meth.locks = false → Cx D cA b ad s → hp D cA b ad S H → va_S (Ab b) s.heap H locs → lv_has ls maxL (lv_args 0 as) → W p l e R s m args below meth c H locs 0 0 Q (F0 m 0 ls [])) :
    Met l y (Cond.code y cc maxL ret :: TW) rm (va_Pc as (Rp D cA b ad S)) Qc 0 0 (Ab b) := by
  refine va_MetF (cc := cc) (maxL := maxL) (ret := ret) hy rfl ?_
  intro p e s m args below meth c s₁ B hml hv
  obtain ⟨rfl, hX, hC⟩ := hv
  have hts := atoms_spec (ws := Cond.code y cc maxL ret :: TW) B.pre
  have hl := lv_entry as (n := maxL) hn
  rw [lg_entry_eq]
  exact body p e _ s m _ below meth c _ _ s.heap [] rfl rfl B.exec B.bytes (fun w hw => hts w (List.mem_cons_of_mem _ hw)) (findClass_of_methodNamed B.named) hml B.returns B.notSynchronized hC hX va_S.rf hl
theorem rt_b {S : ST} {v : Int32} (hQ : Q = MQ below (Qr D cA b ad S (some (.int v))) args s cells slots (Ab b)) (hx : p.tables.exec = Jvm.exec) (hb : c.code = cc) (hr : meth.sig.returnType = some .byte) (hv : narrow .byte (.int v) = .int v) (hX : hp D cA b ad S H) (hS : va_S (Ab b) s.heap H locs) (hlk : meth.locks = false) (hdg : decode cc pc = .ok (.ireturn, 1)) : W p l e R s m args below meth c H locs cells slots Q (F0 m pc ls [.int v]) := by
  subst hQ
  exact W.zret hx hb hr hv (fun t ht _ => ⟨rfl, by rw [ht]; exact hX, hS.F ht⟩) hS.2.2 hdg hlk
end STA
