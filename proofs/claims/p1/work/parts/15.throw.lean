section THR
variable {p : Program} {l : Launch} {e : Env} {R : Room} {s : State} {m : MethodId} {args : Array Value} {below : List Frame} {meth : Method} {c : Code} {H : Heap} {locs : List Loc} {cells slots : Nat} {Q : State → Prop}
variable {cc : ByteArray} {pc : Nat} {ls : Array Slot} {rest : List Value} {D : va_G} {cA : Nat → ClassId} {b : Nat} {ad : Nat → Nat}
def k3n : Cond → Bool
  | .declares _ => true
  | .castable _ _ => true
  | _ => false
def FW : List Cond := lw_tbl.filter k3n
/-- what laysStatic says, of a cell that is never written -/
def Lz (C n d : String) (A : Nat → Prop) (U : State) (H : Heap) : Prop := ∃ (c : ClassId) (k : Class) (i : Nat) (f : Field) (a : Nat) (cell : Cell), U.vm.findClass C = some c ∧ U.fieldFound? C n d = some (c, k, i, f) ∧ f.isStatic = true ∧ k.statics = some a ∧ H[a]? = some cell ∧ cell.vm.isStatics = true ∧ cell.cls = c ∧ f.slot < cell.slots.size ∧ k.staticTypes[f.slot]? = some f.type ∧ ¬ A a
theorem Lz.of {args : Array Value} {C n d : String} {A : Nat → Prop} {s : State} (h : (Cond.laysStatic C n d).before args s = true) (hA : ∀ a : Nat, a < s.heap.size → ¬ A a) : Lz C n d A s s.heap := by
  obtain ⟨c, k, i, f, a, cell, hc, hi, hst, ha, hcell, hs, hcls, hlt, hty⟩ := Cond.laysStatic_spec h
  exact ⟨c, k, i, f, a, cell, hc, hi, hst, ha, hcell, hs, hcls, hlt, hty, hA a (Array.getElem?_eq_some_iff.mp hcell).1⟩
theorem Lz.moved {C n d : String} {A : Nat → Prop} {u U : State} {H : Heap} (hvm : u.vm.Alike U.vm) (h : Lz C n d A u H) : Lz C n d A U H := by
  obtain ⟨c, k, i, f, a, cell, h0, h1, h2, h3, h4, h5, h6, h7, h8, h9⟩ := h
  obtain ⟨k', hi', he⟩ := State.fieldFound?_setVm hvm h1
  exact ⟨c, k', i, f, a, cell, (hvm.findClass C none).trans h0, hi', h2, by rw [he]; exact h3, h4, h5, h6, h7, by rw [he]; exact h8, h9⟩
theorem Lz.kept {C n d : String} {A : Nat → Prop} {U : State} {H H1 : Heap} (h : Lz C n d A U H) (hq : ∀ a : Nat, a < H.size → ¬ A a → H1[a]? = H[a]?) : Lz C n d A U H1 := by
  obtain ⟨c, k, i, f, a, cell, h0, h1, h2, h3, h4, h5, h6, h7, h8, h9⟩ := h
  exact ⟨c, k, i, f, a, cell, h0, h1, h2, h3, (hq a (Array.getElem?_eq_some_iff.mp h4).1 h9).trans h4, h5, h6, h7, h8, h9⟩
theorem Lz.word {C n d : String} {A : Nat → Prop} {U : State} (h : Lz C n d A U U.heap) (args : Array Value) : (Cond.laysStatic C n d).before args U = true := by
  obtain ⟨c, k, i, f, a, cell, h0, h1, h2, h3, h4, h5, h6, h7, h8, h9⟩ := h
  simp [Cond.before, Cond.holds, Cond.value, h0, h1, h2, h3, h4, h5, h6, h7, h8]
def dU : String := "[Ljava/lang/StackTraceElement;"
def dV : String := "Ljava/util/List;"
def Cy (b : Nat) (U : State) : Prop :=
  (∀ w ∈ FW, w.before #[] U = true) ∧ Lz "java/lang/Throwable" "UNASSIGNED_STACK" "[Ljava/lang/StackTraceElement;" (Ab b) U U.heap ∧ Lz "java/lang/Throwable" "SUPPRESSED_SENTINEL" "Ljava/util/List;" (Ab b) U U.heap ∧
  ∃ c1 c2 : ClassId, U.vm.findClass "java/lang/UnsupportedOperationException" = some c1 ∧ U.vm.findClass "java/util/NoSuchElementException" = some c2 ∧ U.vm.assignable c1 c2 = false
theorem Cy_to {b : Nat} {u U : State} (h : Cy b u) (hW : u.WarmedH U.vm) (hq : ∀ a : Nat, a < u.heap.size → ¬ Ab b a → U.heap[a]? = u.heap[a]?) : Cy b U := by
  obtain ⟨h1, h2, h3, c1, c2, h4, h5, h6⟩ := h
  refine ⟨fun w hw => ?_, (h2.moved hW.alike).kept hq, (h3.moved hW.alike).kept hq, c1, c2, (hW.alike.findClass _ none).trans h4, (hW.alike.findClass _ none).trans h5, (hW.alike.assignable c1 c2).trans h6⟩
  have hz := h1 w hw
  have hn := (List.mem_filter.mp hw).2
  cases w <;> first | exact va_tabs rfl (rfl : (u.setVm U.vm).vm = U.vm) (Cond.before_shiftedFace (State.Shifted.of_warmed hW) _ rfl hz) | exact absurd hn Bool.false_ne_true
/-- a method's end, whether it returned or threw -/
def FEX (first : State) (t : State) (L : List Loc) (k n : Nat) : Prop := first.WarmedH t.vm ∧ first.sameButNew ({ t with vm := first.vm } : State) L k n
def MQX (below : List Frame) (Qc : Array Value → State → Outcome → State → Prop) (a : Array Value) (s : State) (mc ms : Nat) (free : Addr → Prop) : State → Prop := fun t =>
  ∃ o, t.status = .running ∧ Ended t below o ∧ Qc a s o t ∧ ∃ L, FEX s t L mc ms ∧ ∀ q ∈ L, free q.base
def MetX (l : Launch) (y : MethodName) (ws : List Cond) (rm : Room) (Pc : Array Value → State → Prop) (Qc : Array Value → State → Outcome → State → Prop) (mc ms : Nat) (free : Addr → Prop) : Prop :=
  MetFree l y (headSpec ws rm) Pc (fun _ _ _ _ _ => True) (fun a st o t => Qc a st o t ∧ ∃ L, FEX st t L mc ms ∧ ∀ q ∈ L, free q.base)
def exN (E : String) (k : Nat) : String := if k = 2 then "java/lang/UnsupportedOperationException" else E
def QT (D : va_G) (cA : Nat → ClassId) (b : Nat) (ad : Nat → Nat) (E : String) (S : ST) (k : Nat) (v : Option Value) : Array Value → State → Outcome → State → Prop := fun _ st o t =>
  ((k = 0 ∧ o = .returned v) ∨ (k ≠ 0 ∧ ∃ (x : Addr) (ce : Cell), o = .threw x ∧ t.heap[x]? = some ce ∧ ce.vm.isStatics = false ∧ st.vm.findClass (exN E k) = some ce.cls)) ∧ hp D cA b ad S t.heap ∧ va_F (Ab b) st t
theorem th_mono {Q' : State → Prop} {g : JFrame} (h : ∀ t, Q t → Q' t) (k : W p l e R s m args below meth c H locs cells slots Q g) : W p l e R s m args below meth c H locs cells slots Q' g := fun T hT X => by
  obtain ⟨t, a, b⟩ := k T hT X
  exact ⟨t, a, h t b⟩
theorem th_mq {E : String} {S : ST} {v : Option Value} (t : State) (h : MQ below (Qr D cA b ad S v) args s 0 0 (Ab b) t) : MQX below (QT D cA b ad E S 0 v) args s 1 6 (Ab b) t := by
  obtain ⟨o, h1, h2, ⟨h3, h4, h5⟩, L, ⟨h6, h7, h8⟩, h9⟩ := h
  exact ⟨o, h1, h2, ⟨Or.inl ⟨rfl, h3⟩, h4, h5⟩, L, ⟨h7, h8.mono (Nat.zero_le _) (Nat.zero_le _)⟩, h9⟩
theorem rx_i {E : String} {S : ST} {v : Int32} (hQ : Q = MQX below (QT D cA b ad E S 0 (some (.int v))) args s 1 6 (Ab b)) (hx : p.tables.exec = Jvm.exec) (hb : c.code = cc) (hr : meth.sig.returnType = some .int) (hX : hp D cA b ad S H) (hS : va_S (Ab b) s.heap H locs) (hlk : meth.locks = false) (hdg : decode cc pc = .ok (.ireturn, 1)) : W p l e R s m args below meth c H locs 0 0 Q (F0 m pc ls [.int v]) := by
  subst hQ
  exact th_mono th_mq (rt_i rfl hx hb hr hX hS hlk hdg)
theorem rx_v {E : String} {S : ST} (hQ : Q = MQX below (QT D cA b ad E S 0 none) args s 1 6 (Ab b)) (hx : p.tables.exec = Jvm.exec) (hb : c.code = cc) (hr : meth.sig.returnType = none) (hX : hp D cA b ad S H) (hS : va_S (Ab b) s.heap H locs) (hlk : meth.locks = false) (hdg : decode cc pc = .ok (.return_, 1)) : W p l e R s m args below meth c H locs 0 0 Q (F0 m pc ls []) := by
  subst hQ
  exact th_mono th_mq (rt_v rfl hx hb hr hX hS hlk hdg)
theorem rx_z {E : String} {S : ST} {v : Bool} (hQ : Q = MQX below (QT D cA b ad E S 0 (some (.int (bI v)))) args s 1 6 (Ab b)) (hx : p.tables.exec = Jvm.exec) (hb : c.code = cc) (hr : meth.sig.returnType = some .boolean) (hX : hp D cA b ad S H) (hS : va_S (Ab b) s.heap H locs) (hlk : meth.locks = false) (hdg : decode cc pc = .ok (.ireturn, 1)) : W p l e R s m args below meth c H locs 0 0 Q (F0 m pc ls [.int (bI v)]) := by
  subst hQ
  exact th_mono th_mq (rt_z rfl hx hb hr hX hS hlk hdg)
theorem rx_zf {E : String} {S : ST} (hQ : Q = MQX below (QT D cA b ad E S 0 (some (.int (bI false)))) args s 1 6 (Ab b)) (hx : p.tables.exec = Jvm.exec) (hb : c.code = cc) (hr : meth.sig.returnType = some .boolean) (hX : hp D cA b ad S H) (hS : va_S (Ab b) s.heap H locs) (hlk : meth.locks = false) (hdg : decode cc pc = .ok (.ireturn, 1)) : W p l e R s m args below meth c H locs 0 0 Q (F0 m pc ls [.int 0]) := rx_z (v := false) hQ hx hb hr hX hS hlk hdg
theorem rx_zt {E : String} {S : ST} (hQ : Q = MQX below (QT D cA b ad E S 0 (some (.int (bI true)))) args s 1 6 (Ab b)) (hx : p.tables.exec = Jvm.exec) (hb : c.code = cc) (hr : meth.sig.returnType = some .boolean) (hX : hp D cA b ad S H) (hS : va_S (Ab b) s.heap H locs) (hlk : meth.locks = false) (hdg : decode cc pc = .ok (.ireturn, 1)) : W p l e R s m args below meth c H locs 0 0 Q (F0 m pc ls [.int 1]) := rx_z (v := true) hQ hx hb hr hX hS hlk hdg
/-- the stand of a walk, taken anew from where it has come -/
theorem th_re {T : State} (X : Stand p l e R s m args below meth c T locs cells slots) (hc : cells ≤ R.cells) (hs : slots ≤ R.slots) : Stand p l e { R with cells := R.cells - cells, slots := R.slots - slots } (T.setFrames (.invoking m args :: below)) m args below meth c T [] 0 0 := by
  have hcur : T.cur < T.threads.size := State.cur_lt_of_top X.here.top
  have hf : (T.setFrames (.invoking m args :: below)).frames = .invoking m args :: below := State.frames_setFrames _ hcur
  have hcode : ∀ mi : MethodId, (T.setFrames (.invoking m args :: below)).code? mi = s.code? mi := fun mi => by
    have h := State.code?_setVm (s := s) X.warmed.alike mi
    exact h
  refine ⟨X.admits, X.cas, X.clock, hf, ?_, ?_, X.method', X.code, X.here, X.tail, State.WarmedH.refl (T.setFrames (.invoking m args :: below)), by rw [State.stackLimits_setFrames], by rw [State.stackBytes_setFrames], ?_⟩
  · obtain ⟨r1, r2, r3, r4⟩ := State.hasRoom_stack X.room
    have r5 := State.hasRoom_real X.room
    have h := X.room
    simp only [State.hasRoom, Bool.and_eq_true, decide_eq_true_eq] at h
    rw [State.localsInUse_invoking X.frames X.method X.code] at r3 r4 r5
    rw [X.frames, List.length_cons] at r1 r2
    have hU := State.localsInUse_invoking hf (meth := meth) (c := c) X.method' X.code
    have h1 := X.heapSize
    have h2 := X.used
    simp only [State.hasRoom, Bool.and_eq_true, decide_eq_true_eq, hf, hU, List.length_cons, State.stackLimits_setFrames, State.stackBytes_setFrames, X.limits, X.bytes]
    refine ⟨⟨⟨⟨by omega, by omega, by omega, by omega, by omega, h.1.1.1.2.2.2.2.2⟩, ?_⟩, ?_⟩, X.book⟩
    · have := h.1.1.2
      show T.heap.size + (R.cells - cells) ≤ e.platform.maxCells
      omega
    · have := h.1.2
      show T.slotsUsed + (R.slots - slots) ≤ e.platform.maxSlots
      omega
  · have h := X.hears
    cases below with
    | nil => simpa only [State.hears, X.warmed.alike.method?, show (T.setFrames [.invoking m args]).vm = T.vm from rfl] using h
    | cons f r => cases f <;> first | rfl | simpa only [State.hears, hcode] using h | simpa only [State.hears, X.warmed.alike.method?, State.setFrames] using h
  · obtain ⟨g₀, hg⟩ := X.frames_eq
    obtain ⟨th, hth, -⟩ := State.frames_cons hg
    obtain ⟨th2, hth2, -⟩ := State.frames_cons hf
    have h := (State.sameButNew.refl (T.setFrames (.invoking m args :: below)) hth2).setFrames T.frames (State.cur_lt_of_frames hf)
    rw [State.setFrames_setFrames, State.setFrames_self hth] at h
    exact h
theorem th_isref {C n d : String} {A : Nat → Prop} {U : State} (h : va_Zq C n d A U U.heap) (a : Array Value) : (Cond.isRef (.static C n d)).before a U = true := by
  rcases h with h | ⟨t, h⟩
  · obtain ⟨cf, kf, fi, f, q, cell, h1, h2, h3, h4, h5, h6, h7, h8⟩ := h
    simp [Cond.before, Cond.holds, Cond.value, Term.eval, State.fieldNamed?, h1, h2, h4, h5, h6, h7]
  · obtain ⟨cf, kf, fi, f, q, cell, h1, h2, h3, h4, h5, h6, h7, h8⟩ := h
    simp [Cond.before, Cond.holds, Cond.value, Term.eval, State.fieldNamed?, h1, h2, h4, h5, h6, h7]
theorem fw_any {a a' : Array Value} {U : State} {w : Cond} (hw : w ∈ FW) (h : w.before a U = true) : w.before a' U = true := by
  have hn := (List.mem_filter.mp hw).2
  cases w <;> first | exact h | exact absurd hn Bool.false_ne_true
def RpY (D : va_G) (cA : Nat → ClassId) (b : Nat) (ad : Nat → Nat) (S : ST) (U : State) : Prop := hp D cA b ad S U.heap ∧ Cx D cA b ad U ∧ Cy b U
theorem RpY_blind {as : List Value} {S : ST} : FrameBlind (va_Pc as (RpY D cA b ad S)) := fun a U g mk h => ⟨h.1, h.2.1, Cx_to h.2.2.1 (State.WarmedH.refl U) (fun _ _ _ => rfl), Cy_to h.2.2.2 (State.WarmedH.refl U) (fun _ _ _ => rfl)⟩
theorem RpY_pre {as : List Value} {S : ST} (hC : Cx D cA b ad s) (hY : Cy b s) (hX : hp D cA b ad S H) (hS : va_S (Ab b) s.heap H locs) : ∀ U : State, U.heap = H → s.WarmedH U.vm → va_Pc as (RpY D cA b ad S) as.toArray U := by
  intro U hU hW
  subst hU
  exact ⟨rfl, hX, Cx_to hC hW hS.2.1, Cy_to hY hW hS.2.1⟩
def exNames : List String := ["java/lang/RuntimeException", "java/lang/Exception"]
def isU : Cond := .isRef (.static "java/lang/Throwable" "UNASSIGNED_STACK" "[Ljava/lang/StackTraceElement;")
def isV : Cond := .isRef (.static "java/lang/Throwable" "SUPPRESSED_SENTINEL" "Ljava/util/List;")
def lsU : Cond := .laysStatic "java/lang/Throwable" "UNASSIGNED_STACK" "[Ljava/lang/StackTraceElement;"
def lsV : Cond := .laysStatic "java/lang/Throwable" "SUPPRESSED_SENTINEL" "Ljava/util/List;"
def exAt (own : String) (idx ic : Nat) (X : String) : Bool :=
  (Bundle.ownAtoms0 own ic X exNames).all (fun w => decide (w ∈ TW) || decide (w = isU) || decide (w = isV) || decide (w ∈ FW) || decide (w = lsU) || decide (w = lsV)) && decide (Cond.classLink own idx X ∈ TW) && decide (Cond.instantiable X 6 ∈ TW) && decide (Cond.initialized X ∈ TW) && Bundle.fit X
set_option maxHeartbeats 1000000 in
theorem th_go {own X : String} {idx ic nL k : Nat} {E : String} {S : ST} {v : Option Value} (hat : exAt own idx ic X = true) (hk : k ≠ 0) (hE : exN E k = X)
    (hQ : Q = MQX below (QT D cA b ad E S k v) args s 1 6 (Ab b)) (hx : p.tables.exec = Jvm.exec) (hb : c.code = cc) (hts : ∀ w ∈ TW, w.before args s = true) (hown : s.vm.findClass own = some m.cls) (hC : Cx D cA b ad s) (hY : Cy b s) (hX : hp D cA b ad S H) (hS : va_S (Ab b) s.heap H locs)
    (hlk : meth.locks = false) (hT : ∀ e, l.admits e → e.platform.stackTraces = false) (hex : c.exceptionTable.toList = []) (hml : c.maxLocals = nL) (hsz : ls.size = nL) (hR : 6 ≤ R.frames ∧ 100 ≤ R.locals ∧ 1 ≤ R.cells ∧ 6 ≤ R.slots) (hroom : (rest.map fun v => v.category).sum ≤ 8)
    (hd1 : decode cc pc = .ok (.new idx, 3)) (hd2 : decode cc (pc + 3) = .ok (.dup, 1)) (hd3 : decode cc (pc + 3 + 1) = .ok (.invokespecial ic, 3)) (hd4 : decode cc (pc + 3 + 1 + 3) = .ok (.athrow, 1)) : W p l e R s m args below meth c H locs 0 0 Q (F0 m pc ls rest) := by
  intro T hT0 X0
  subst hT0 hQ hE
  simp only [exAt, Bool.and_eq_true, List.all_eq_true, Bool.or_eq_true, decide_eq_true_eq] at hat
  obtain ⟨⟨⟨⟨hat, hcl⟩, hin⟩, hini⟩, hfit⟩ := hat
  have hre := th_re X0 (Nat.zero_le _) (Nat.zero_le _)
  have hts' : ∀ w ∈ TW, w.before args (T.setFrames (.invoking m args :: below)) = true := fun w hw => word_at (U := T.setFrames (.invoking m args :: below)) X0.warmed (good_of_word (List.mem_filter.mp hw).2) (hts w hw)
  have hC' : Cx D cA b ad (T.setFrames (.invoking m args :: below)) := Cx_to hC X0.warmed hS.2.1
  have hY' : Cy b (T.setFrames (.invoking m args :: below)) := Cy_to hY X0.warmed hS.2.1
  have hown' : (T.setFrames (.invoking m args :: below)).vm.findClass own = some m.cls := (X0.warmed.alike.findClass own none).trans hown
  have hatoms : ∀ w ∈ Bundle.ownAtoms0 own ic (exN E k) exNames, w.before args (T.setFrames (.invoking m args :: below)) = true := by
    intro w hw
    rcases hat w hw with ((((h | h) | h) | h) | h) | h
    · exact hts' w h
    · rw [h]; exact th_isref hC'.2.2.2.1.2.2.2.2.2.2.1 args
    · rw [h]; exact th_isref hC'.2.2.2.1.2.2.2.2.2.2.2.1 args
    · exact fw_any h (hY'.1 w h)
    · rw [h]; exact hY'.2.1.word args
    · rw [h]; exact hY'.2.2.1.word args
  obtain ⟨vm', cC, kC, h1, h2, h3, h4, X1, st1⟩ := hre.newCold hx hown' (hts' _ hcl) (hts' _ hin) (hts' _ hini) (g := F0 m pc ls rest) rfl (by rw [hb]; exact hd1) (by show 0 + 1 ≤ R.cells - 0; omega) (by show 0 + 6 ≤ R.slots - 0; omega)
  have hW : W p l e { R with cells := R.cells - 0, slots := R.slots - 0 } (T.setFrames (.invoking m args :: below)) m args below meth c ((T.setVm vm').pushCell { cls := cC, slots := kC.instanceTypes.map defaultValue, vm := .none }).heap [] (0 + 1) (0 + 6) (MQX below (QT D cA b ad E S k v) args s 1 6 (Ab b)) (F0 m (pc + 3) ls (.ref T.heap.size :: rest)) := by
    refine lv_dup hx hb hd2 rfl ?_
    intro T2 hT2 X2
    have hce0 : T2.heap[T.heap.size]? = some (freshCell cC kC) := by
      rw [hT2]
      show (T.heap.push _)[T.heap.size]? = _
      rw [Array.getElem?_push, if_pos rfl]
    obtain ⟨U, hst, hrun, hend, hWU, hsame, ce, hce, hoc⟩ := X2.ctorThrow0 hx (hT e X0.admits) hown' (cls := exN E k) (names := exNames) hfit (by decide) hatoms (fun _ h => by cases h) (a := T.heap.size) h1 h2 hce0 (Nat.le_refl _)
      (g := F0 m (pc + 3 + 1) ls (.ref T.heap.size :: .ref T.heap.size :: rest)) rfl (hsz.trans hml.symm) rfl rfl rfl (by rw [hb]; exact hd3) (by rw [hb]; exact hd4) (fun x hx => by rw [hex] at hx; cases hx) (by show 2 + 3 < R.frames; omega)
      (by show 2 * 0 + (((1 : Nat) :: (rest.map fun v => v.category)).sum) + (13 * (2 + 1) + 41) ≤ R.locals; rw [List.sum_cons]; omega) hlk
    have hold : ∀ (a : Addr) (c0 : Cell), T.heap[a]? = some c0 → U.heap[a]? = some c0 := fun a c0 h => by
      have hq : ({ U with vm := (T.setFrames (.invoking m args :: below)).vm } : State).heap[a]? = some c0 := State.sameButNew.old_cell hsame h
      exact hq
    have hkeep : ∀ a : Nat, a < T.heap.size → U.heap[a]? = T.heap[a]? := fun a h => by
      rw [hold a T.heap[a] (Array.getElem?_eq_getElem h), Array.getElem?_eq_getElem h]
    have hB : T.sameButNew ({ U with vm := T.vm } : State) [] (0 + 1) (0 + 6) := by
      obtain ⟨q1, q2, q3, q4, q5, q6⟩ := hsame
      refine ⟨?_, q2, q3, q4, q5, q6⟩
      rw [State.setFrames_setFrames] at q1
      exact q1
    have hsm := X0.same.trans (hB.setVm s.vm)
    rw [List.append_nil] at hsm
    have hle : T.heap.size ≤ U.heap.size := hB.2.1
    refine ⟨U, hst, .threw T.heap.size, hrun, hend, ⟨Or.inr ⟨hk, T.heap.size, ce, rfl, hce, by rw [hoc.vm]; rfl, ?_⟩, ?_, ?_⟩, locs, ⟨State.WarmedH.trans X0.warmed hWU, hsm⟩, hS.2.2⟩
    · exact (X0.warmed.alike.findClass (exN E k) none).symm.trans hoc.cls
    · exact va_P.kept hX (fun k q hq => hkeep _ (hX k q hq).lt)
    · exact ⟨Nat.le_trans hS.1 hle, fun q h1 h2 => by rw [hkeep q (Nat.lt_of_lt_of_le h1 hS.1)]; exact hS.2.1 q h1 h2⟩
  obtain ⟨t, a1, b1⟩ := hW _ rfl X1
  exact ⟨t, st1 t a1, b1⟩
/-- a contract of a method that may throw, out of the walk of its body -/
theorem Ct_ofX {y : MethodName} {maxL : Nat} {ret : Option FieldType} {rm : Room} {as : List Value} {S : ST} {Qc : Array Value → State → Outcome → State → Prop} (hy : plainName y.cls = true) (hn : (lg_sl as).length ≤ maxL)
    (body : ∀ (p : Program) (e : Env) (R : Room) (s : State) (m : MethodId) (args : Array Value) (below : List Frame) (meth : Method) (c : Code) (ls : Array Slot) (Q : State → Prop) (H : Heap) (locs : List Loc), R = rm → Q = MQX below Qc args s 1 6 (Ab b) → p.tables.exec = Jvm.exec → c.code = cc → (∀ w ∈ TW, w.before args s = true) → s.vm.findClass y.cls = some m.cls → c.maxLocals = maxL → meth.sig.returnType = ret → meth.locks = false → Cx D cA b ad s → Cy b s → hp D cA b ad S H → va_S (Ab b) s.heap H locs → lv_has ls maxL (lv_args 0 as) → c.exceptionTable.toList = [] → W p l e R s m args below meth c H locs 0 0 Q (F0 m 0 ls [])) :
    MetX l y (Cond.code y cc maxL ret :: TW) rm (va_Pc as (RpY D cA b ad S)) Qc 1 6 (Ab b) := by
  refine MetFree.of_bodyS (code := cc) (maxLocals := maxL) (ret := ret) hy ?_ ?_
  · intro args s m h hn
    obtain ⟨meth, c, h1, h2, h3, h4, h5, h6, -, -⟩ := Cond.code_spec hn (atoms_spec (ws := Cond.code y cc maxL ret :: TW) h _ List.mem_cons_self)
    exact ⟨meth, c, h1, h2, h3, h4, h5, h6⟩
  · intro p e s m args below meth c s₁ B hml hv _
    obtain ⟨rfl, hX, hC, hY⟩ := hv
    have hh0 : s₁.heap = s.heap := by rw [B.state]; rfl
    have hts := atoms_spec (ws := Cond.code y cc maxL ret :: TW) B.pre
    have hl := lv_entry as (n := maxL) hn
    have hex : c.exceptionTable.toList = [] := by
      have h0 := B.noHandlers (hts _ List.mem_cons_self)
      simpa [Array.isEmpty_iff] using h0
    obtain ⟨t, a1, o, b1, b2, b3⟩ := body p e _ s m _ below meth c _ _ s.heap [] rfl rfl B.exec B.bytes (fun w hw => hts w (List.mem_cons_of_mem _ hw)) (findClass_of_methodNamed B.named) hml B.returns B.notSynchronized hC hY hX va_S.rf hl hex s₁ hh0 (Stand.of_body B)
    rw [← lg_entry_eq] at a1
    exact ⟨t, o, a1, b1, b2, ⟨b3.1, b3.2⟩⟩
end THR
theorem hat_0 : exAt "TypeGuard" 63 65 "java/lang/IllegalArgumentException" = true := by decide +kernel
theorem hat_1 : exAt "TypeGuard" 101 103 "java/util/NoSuchElementException" = true := by decide +kernel
theorem hat_2 : exAt "TypeGuard" 160 162 "java/lang/UnsupportedOperationException" = true := by decide +kernel
