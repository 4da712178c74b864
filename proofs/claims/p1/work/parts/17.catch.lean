section CAT
variable {p : Program} {l : Launch} {e : Env} {R : Room} {s : State} {m : MethodId} {args : Array Value} {below : List Frame} {meth : Method} {c : Code} {H : Heap} {locs : List Loc} {cells slots : Nat} {Q : State → Prop}
variable {cc : ByteArray} {pc : Nat} {ls : Array Slot} {rest : List Value} {D : va_G} {cA : Nat → ClassId} {b : Nat} {ad : Nat → Nat}
/-- the search for a handler ends in h, and leaves the tables vm' -/
def FT (e : Env) (s : State) (f : JFrame) (a : Addr) (h : Handler) (vm' : Vm) : Prop := ∀ (Q : Handler → Pre) (E : CtlPost) (d : Bool) (acts : List Action), wp (findHandler f a) Q E e d acts s ↔ Q h d acts (s.setVm vm')
theorem ft_go {U : State} {f : JFrame} {a : Addr} {x : ExceptionTableEntry} {t : List ExceptionTableEntry} {cl : ClassId} {cell : Cell} {vm' : Vm} {Qh : Handler → Pre} {E : CtlPost} {d : Bool} {acts : List Action}
    (hx : covers x f.pc = true) (h0 : x.catchType ≠ 0) (hg : (Jvm.resolveClass f.method.cls x.catchType).Gives e.toSetting U.vm (.ok cl) vm') (hsz : vm'.classes.size ≤ U.vm.classes.size)
    (hcell : U.heap[a]? = some cell) (hobj : ∀ k, cell.vm ≠ .statics k) (hk : ∃ k, vm'.classes[cell.cls]? = some k) (hc : ∃ k, vm'.classes[cl]? = some k) :
    wp (findHandler.go f a (x :: t)) Qh E e d acts U ↔ if vm'.assignable cell.cls cl = true then Qh (.found x.handlerPc) d acts (U.setVm vm') else wp (findHandler.go f a t) Qh E e d acts (U.setVm vm') := by
  simp only [covers] at hx
  obtain ⟨ha, ht⟩ := hg.op (op := VmOp.resolveClass f.method.cls x.catchType) rfl
  cases hfit : vm'.assignable cell.cls cl <;>
    simp [findHandler.go, hx, h0, ha, ht, hsz, hcell, hobj, hk, hc, hfit, VmOp.dirties, VmOp.acts]
theorem ft_step {U : State} {f : JFrame} {a : Addr} {r : List Frame} {hpc : Nat} {vm' : Vm} (hf : FT e U f a (.found hpc) vm') :
    (stepThrowing e U a (.java f :: r)).Is ((U.setVm vm').setFrames (.java { f with pc := hpc, stack := [.ref a] } :: r)) [] := by
  simp only [stepThrowing, searchFrame, vmDo]
  generalize hr : Sem.go _ e false [] U = res
  obtain ⟨as, rfl, ha⟩ := Sem.eq_ok_of hr (a := Handler.found hpc) (s' := U.setVm vm') (acts' := []) (by simp [hf _ _ _ _])
  exact ⟨rfl, ha⟩
theorem ft_caught {tb : Tables} {U target : State} {g : JFrame} {a : Addr} (h : At U g.method c below) {hpc : Nat} {vm' : Vm} (hf : FT e ((U.setTop g).pushFrame (.throwing a)) g a (.found hpc) vm')
    (hrest : Steps tb e below ((U.setVm vm').setTop { g with pc := hpc, stack := [.ref a] }) target) : Steps tb e below ((U.setTop g).pushFrame (.throwing a)) target := by
  obtain ⟨hgo, hw⟩ := h.throwing a
  refine Steps.head hgo hw ?_
  rw [stepThread_throwing (frames_entered h.top _), (ft_step (r := U.frames.tail) hf).1]
  obtain ⟨g₀, hg⟩ := Option.isSome_iff_exists.mp h.top
  obtain ⟨r, hr⟩ := State.topJava?_eq_some.mp hg
  have hr' : (U.setVm vm').frames = .java g₀ :: r := hr
  rw [State.setTop_of_frames _ hr'] at hrest
  have e1 : (((U.setTop g).pushFrame (.throwing a)).setVm vm').setFrames (.java { g with pc := hpc, stack := [.ref a] } :: U.frames.tail) = (U.setVm vm').setFrames (.java { g with pc := hpc, stack := [.ref a] } :: r) := by
    rw [State.setTop_of_frames _ hr, State.pushFrame, State.setFrames_setFrames, hr]
    have e2 : ∀ F G, (((U.setFrames F).setVm vm').setFrames G) = (U.setVm vm').setFrames G := fun F G => by
      have := State.setFrames_setFrames (U.setVm vm') F G
      exact this
    rw [e2]
    rfl
  rw [e1]
  exact hrest
theorem mx_ret {y : MethodName} {ws : List Cond} {rm : Room} {Pc : Array Value → State → Prop} {E : String} {S : ST} {v : Option Value} {mc ms : Nat} {free : Addr → Prop} (h : MetX l y ws rm Pc (QT D cA b ad E S 0 v) mc ms free) : Met l y ws rm Pc (Qr D cA b ad S v) mc ms free := by
  intro p e ha hc hk s m args below hf happ hP hK
  obtain ⟨n, o, h1, h2, h3, ⟨h4, h5, h6⟩, L, h7, h8⟩ := h p e ha hc hk s m args below hf happ hP hK
  have ho : o = .returned v := by
    rcases h4 with h | h
    · exact h.2
    · exact absurd rfl h.1
  exact ⟨n, o, h1, h2, h3, ⟨ho, h5, h6⟩, L, ⟨⟨v, ho⟩, h7.1, h7.2⟩, h8⟩
theorem ck_goN {S' : ST} {v : Option Value} {st0 st1 : List Value} {a : Array Value} {mc ms : Nat} (hr : va_Run p l e R s m args below meth c H locs cells slots mc ms (F0 m pc ls st0) rest (Qr D cA b ad S' v a) (Ab b)) (hS : va_S (Ab b) s.heap H locs) (h1 : v.toList ++ rest = st1)
    (kk : ∀ (H : Heap) (locs : List Loc), hp D cA b ad S' H → va_S (Ab b) s.heap H locs → W p l e R s m args below meth c H locs (cells + mc) (slots + ms) Q (F0 m (pc + 3) ls st1)) : W p l e R s m args below meth c H locs cells slots Q (F0 m pc ls st0) := by
  intro T hT X
  obtain ⟨v', st₀, t, T', L, h0, X', hL, e1, e2, ⟨hv, hX1, hz, hk⟩, st⟩ := hr T hT X
  cases hv
  subst h1
  rw [h0] at hz hk
  obtain ⟨t2, a1, b1⟩ := kk T'.heap (locs ++ L) (by rw [e1]; exact hX1)
    ⟨Nat.le_trans hS.1 (by rw [e1]; exact hz), fun q h1 h2 => by rw [e1, hk q (Nat.lt_of_lt_of_le h1 hS.1) h2]; exact hS.2.1 q h1 h2, fun q hq => by
      rcases List.mem_append.mp hq with h | h
      · exact hS.2.2 q h
      · exact hL q h⟩ T' rfl X'
  exact ⟨t2, st t2 a1, b1⟩
/-- where the handler is: one entry, or two of which the first is passed -/
def HF (p : Program) (l : Launch) (e : Env) (R : Room) (s : State) (m : MethodId) (args : Array Value) (below : List Frame) (meth : Method) (c : Code) (X : String) (g : JFrame) (hpc : Nat) : Prop :=
  ∀ (T' : State) (L : List Loc) (c1 s1 : Nat) (x : Addr) (ce : Cell), Stand p l e R s m args below meth c T' L c1 s1 → T'.heap[x]? = some ce → ce.vm.isStatics = false → s.vm.findClass X = some ce.cls → ∃ vm', s.WarmedH vm' ∧ FT e ((T'.setTop g).pushFrame (.throwing x)) g x (.found hpc) vm'
theorem hf_one {X own : String} {g : JFrame} {fr to hpc ix : Nat} (hg : g.method = m) (hex : c.exceptionTable.toList.map (fun h => (h.startPc, h.endPc, h.handlerPc, h.catchType)) = [(fr, to, hpc, ix)]) (hcv : fr ≤ g.pc ∧ g.pc < to) (hix : ix ≠ 0)
    (hown : s.vm.findClass own = some m.cls) (hcl : (Cond.classLink own ix X).before args s = true) (hca : (Cond.castable X X).before #[] s = true) : HF p l e R s m args below meth c X g hpc := by
  intro T' L c1 s1 x ce X' hce hst hfc
  obtain ⟨en, ht, he⟩ : ∃ en, c.exceptionTable.toList = [en] ∧ (en.startPc, en.endPc, en.handlerPc, en.catchType) = (fr, to, hpc, ix) := by
    cases hc : c.exceptionTable.toList with
    | nil => rw [hc] at hex; cases hex
    | cons en tl =>
      rw [hc] at hex
      simp only [List.map_cons, List.cons.injEq, List.map_eq_nil_iff] at hex
      exact ⟨en, by rw [hex.2], hex.1⟩
  simp only [Prod.mk.injEq] at he
  obtain ⟨e1, e2, e3, e4⟩ := he
  have hpl : e.platform.magicAccessors = ({} : Platform).magicAccessors := by rw [X'.admits.platform]
  obtain ⟨cC, hfC, hlk⟩ := Cond.classLink_spec hown hcl e.platform hpl
  obtain ⟨hg1, hW1, hr1⟩ := State.classEntry (e := e) X'.warmed hlk
  obtain ⟨c3, c4, hc3, hc4, has⟩ := Cond.castable_spec hca
  cases hc3.symm.trans hc4
  cases hc3.symm.trans hfC
  cases hfC.symm.trans hfc
  obtain ⟨kC, hkC⟩ := Vm.classAt_of_findClass hfC
  obtain ⟨kC', hkC', -⟩ := hW1.alike.2.2 _ _ hkC
  refine ⟨_, hW1, ?_⟩
  subst hg
  have hmm : ((T'.setTop g).pushFrame (.throwing x)).vm.method? g.method = some meth := by rw [Stand.throwing_vm]; exact X'.method'
  intro Qh E d acts
  rw [Jvm.W.findHandler_eq hmm X'.code, ht, ft_go (vm' := T'.vm.noted g.method.cls ix (.cls ce.cls)) (cl := ce.cls) (cell := ce) (by simp only [covers, e1, e2]; simpa using hcv) (by rw [e4]; exact hix) (by rw [Stand.throwing_vm, e4]; exact hg1) (by rw [Stand.throwing_vm]; simp) (by rw [Stand.throwing_heap]; exact hce) (VmData.ne_statics_of hst) ⟨_, hkC'⟩ ⟨_, hkC'⟩, if_pos ((hW1.alike.assignable _ _).trans has), e3]
theorem hf_two {X Y own : String} {g : JFrame} {fr to h1 h2 i1 i2 : Nat} (hg : g.method = m) (hex : c.exceptionTable.toList.map (fun h => (h.startPc, h.endPc, h.handlerPc, h.catchType)) = [(fr, to, h1, i1), (fr, to, h2, i2)]) (hcv : fr ≤ g.pc ∧ g.pc < to) (hi1 : i1 ≠ 0) (hi2 : i2 ≠ 0)
    (hown : s.vm.findClass own = some m.cls) (hcl1 : (Cond.classLink own i1 Y).before args s = true) (hcl2 : (Cond.classLink own i2 X).before args s = true) (hca : (Cond.castable X X).before #[] s = true)
    (hnc : ∃ c1 c2 : ClassId, s.vm.findClass X = some c1 ∧ s.vm.findClass Y = some c2 ∧ s.vm.assignable c1 c2 = false) : HF p l e R s m args below meth c X g h2 := by
  intro T' L c1 s1 x ce X' hce hst hfc
  obtain ⟨en, en2, ht, he, hee⟩ : ∃ en en2, c.exceptionTable.toList = [en, en2] ∧ (en.startPc, en.endPc, en.handlerPc, en.catchType) = (fr, to, h1, i1) ∧ (en2.startPc, en2.endPc, en2.handlerPc, en2.catchType) = (fr, to, h2, i2) := by
    cases hc : c.exceptionTable.toList with
    | nil => rw [hc] at hex; cases hex
    | cons en tl =>
      rw [hc] at hex
      cases tl with
      | nil => cases hex
      | cons en2 tl =>
        simp only [List.map_cons, List.cons.injEq, List.map_eq_nil_iff] at hex
        exact ⟨en, en2, by rw [hex.2.2], hex.1, hex.2.1⟩
  simp only [Prod.mk.injEq] at he hee
  obtain ⟨e1, e2, e3, e4⟩ := he
  obtain ⟨f1, f2, f3, f4⟩ := hee
  have hpl : e.platform.magicAccessors = ({} : Platform).magicAccessors := by rw [X'.admits.platform]
  obtain ⟨cY, hfY, hlkY⟩ := Cond.classLink_spec hown hcl1 e.platform hpl
  obtain ⟨cC, hfC, hlk⟩ := Cond.classLink_spec hown hcl2 e.platform hpl
  obtain ⟨hg1, hW1, hr1⟩ := State.classEntry (e := e) X'.warmed hlkY
  obtain ⟨hg2, hW2, hr2⟩ := State.classEntry (e := e) hW1 hlk
  obtain ⟨c3, c4, hc3, hc4, has⟩ := Cond.castable_spec hca
  obtain ⟨n1, n2, hn1, hn2, hna⟩ := hnc
  cases hc3.symm.trans hc4
  cases hc3.symm.trans hfC
  cases hfC.symm.trans hfc
  cases hfc.symm.trans hn1
  cases hfY.symm.trans hn2
  obtain ⟨kC, hkC⟩ := Vm.classAt_of_findClass hfC
  obtain ⟨kY, hkY⟩ := Vm.classAt_of_findClass hfY
  obtain ⟨kC', hkC', -⟩ := hW1.alike.2.2 _ _ hkC
  obtain ⟨kY', hkY', -⟩ := hW1.alike.2.2 _ _ hkY
  obtain ⟨kD', hkD', -⟩ := hW2.alike.2.2 _ _ hkC
  refine ⟨_, hW2, ?_⟩
  subst hg
  have hmm : ((T'.setTop g).pushFrame (.throwing x)).vm.method? g.method = some meth := by rw [Stand.throwing_vm]; exact X'.method'
  intro Qh E d acts
  rw [Jvm.W.findHandler_eq hmm X'.code, ht, ft_go (vm' := T'.vm.noted g.method.cls i1 (.cls cY)) (cl := cY) (cell := ce) (by simp only [covers, e1, e2]; simpa using hcv) (by rw [e4]; exact hi1) (by rw [Stand.throwing_vm, e4]; exact hg1) (by rw [Stand.throwing_vm]; simp) (by rw [Stand.throwing_heap]; exact hce) (VmData.ne_statics_of hst) ⟨_, hkC'⟩ ⟨_, hkY'⟩, if_neg (by rw [hW1.alike.assignable, hna]; exact Bool.false_ne_true)]
  rw [ft_go (U := ((T'.setTop g).pushFrame (.throwing x)).setVm (T'.vm.noted g.method.cls i1 (.cls cY))) (vm' := (T'.vm.noted g.method.cls i1 (.cls cY)).noted g.method.cls i2 (.cls ce.cls)) (cl := ce.cls) (cell := ce) (by simp only [covers, f1, f2]; simpa using hcv) (by rw [f4]; exact hi2) (by rw [f4]; exact hg2) (by simp) (by show ((T'.setTop g).pushFrame (.throwing x)).heap[x]? = _; rw [Stand.throwing_heap]; exact hce) (VmData.ne_statics_of hst) ⟨_, hkD'⟩ ⟨_, hkD'⟩, if_pos ((hW2.alike.assignable _ _).trans has), f3]
  exact Iff.rfl
theorem hf_twoF {X own : String} {g : JFrame} {fr to h1 h2 i1 i2 : Nat} (hg : g.method = m) (hex : c.exceptionTable.toList.map (fun h => (h.startPc, h.endPc, h.handlerPc, h.catchType)) = [(fr, to, h1, i1), (fr, to, h2, i2)]) (hcv : fr ≤ g.pc ∧ g.pc < to) (hix : i1 ≠ 0)
    (hown : s.vm.findClass own = some m.cls) (hcl : (Cond.classLink own i1 X).before args s = true) (hca : (Cond.castable X X).before #[] s = true) : HF p l e R s m args below meth c X g h1 := by
  intro T' L c1 s1 x ce X' hce hst hfc
  obtain ⟨en, en2, ht, he⟩ : ∃ en en2, c.exceptionTable.toList = [en, en2] ∧ (en.startPc, en.endPc, en.handlerPc, en.catchType) = (fr, to, h1, i1) := by
    cases hc : c.exceptionTable.toList with
    | nil => rw [hc] at hex; cases hex
    | cons en tl =>
      rw [hc] at hex
      cases tl with
      | nil => cases hex
      | cons en2 tl =>
        simp only [List.map_cons, List.cons.injEq, List.map_eq_nil_iff] at hex
        exact ⟨en, en2, by rw [hex.2.2], hex.1⟩
  simp only [Prod.mk.injEq] at he
  obtain ⟨e1, e2, e3, e4⟩ := he
  have hpl : e.platform.magicAccessors = ({} : Platform).magicAccessors := by rw [X'.admits.platform]
  obtain ⟨cC, hfC, hlk⟩ := Cond.classLink_spec hown hcl e.platform hpl
  obtain ⟨hg1, hW1, hr1⟩ := State.classEntry (e := e) X'.warmed hlk
  obtain ⟨c3, c4, hc3, hc4, has⟩ := Cond.castable_spec hca
  cases hc3.symm.trans hc4
  cases hc3.symm.trans hfC
  cases hfC.symm.trans hfc
  obtain ⟨kC, hkC⟩ := Vm.classAt_of_findClass hfC
  obtain ⟨kC', hkC', -⟩ := hW1.alike.2.2 _ _ hkC
  refine ⟨_, hW1, ?_⟩
  subst hg
  have hmm : ((T'.setTop g).pushFrame (.throwing x)).vm.method? g.method = some meth := by rw [Stand.throwing_vm]; exact X'.method'
  intro Qh E d acts
  rw [Jvm.W.findHandler_eq hmm X'.code, ht, ft_go (vm' := T'.vm.noted g.method.cls i1 (.cls ce.cls)) (cl := ce.cls) (cell := ce) (by simp only [covers, e1, e2]; simpa using hcv) (by rw [e4]; exact hix) (by rw [Stand.throwing_vm, e4]; exact hg1) (by rw [Stand.throwing_vm]; simp) (by rw [Stand.throwing_heap]; exact hce) (VmData.ne_statics_of hst) ⟨_, hkC'⟩ ⟨_, hkC'⟩, if_pos ((hW1.alike.assignable _ _).trans has), e3]
set_option maxHeartbeats 1000000 in
theorem ck_X {own : String} {y : MethodName} {bytes : ByteArray} {maxL n index nL hpc k : Nat} {ret : Option FieldType} {rm : Room} {S S' : ST} {E : String} {v : Option Value} {As st0 : List Value} {a : Nat} (hk : k ≠ 0)
    (hM : MetX l y (Cond.code y bytes maxL ret :: TW) rm (va_Pc (.ref a :: As) (RpY D cA b ad S)) (QT D cA b ad E S' k v) 1 6 (Ab b))
    (hl : Cond.methodLink own index y ∈ TW) (hin : Cond.instanceMethod y ∈ TW) (hse : Cond.selects y.cls y y ∈ TW) (hco : Cond.code y bytes maxL ret ∈ TW) (hini : Cond.initialized y.cls ∈ TW)
    (hx : p.tables.exec = Jvm.exec) (hb : c.code = cc) (hts : ∀ w ∈ TW, w.before args s = true) (hown : s.vm.findClass own = some m.cls) (hC : Cx D cA b ad s) (hY : Cy b s) (hX : hp D cA b ad S H) (hS : va_S (Ab b) s.heap H locs)
    (hrc : ∃ cell : Cell, H[a]? = some cell ∧ cell.vm.isStatics = false ∧ s.vm.findClass y.cls = some cell.cls) (hml : c.maxLocals = nL) (hsz : ls.size = nL) (hR : rm.frames + 1 ≤ R.frames ∧ 8 + (maxL + 11) + rm.locals ≤ R.locals) (hz : rm.cells = 1 ∧ rm.slots = 6)
    (hd : y.cls ≠ "java/lang/invoke/MethodHandle" ∧ y.cls ≠ "java/lang/invoke/VarHandle" ∧ (parseMethodDescriptor y.desc).map (fun d => d.parameters.length) = some n) (hn : As.length = n)
    (hst : st0 = As.reverse ++ .ref a :: rest) (hroom : 2 * (F0 m pc ls rest).monitorRoom + (rest.map fun v => v.category).sum ≤ 8) (hdg : decode cc pc = .ok (.invokevirtual index, 3)) (hf : cells + 1 ≤ R.cells ∧ slots + 6 ≤ R.slots)
    (hfd : HF p l e R s m args below meth c (exN E k) (F0 m pc ls rest) hpc)
    (kk : ∀ (H : Heap) (locs : List Loc) (x : Addr), hp D cA b ad S' H → va_S (Ab b) s.heap H locs → W p l e R s m args below meth c H locs (cells + 1) (slots + 6) Q (F0 m hpc ls [.ref x])) : W p l e R s m args below meth c H locs cells slots Q (F0 m pc ls st0) := by
  intro T hT X
  subst hT
  obtain ⟨mk, methM, hnamed, hmethM, hstM, habM⟩ := Cond.instanceMethod_spec (hts _ hin)
  obtain ⟨methM', cM, hmethM', hcM, -, hlM, -, -, -, hsigM⟩ := Cond.code_spec hnamed (hts _ hco)
  cases hmethM.symm.trans hmethM'
  obtain ⟨cellB, hcB, hoB, hclB⟩ := hrc
  obtain ⟨c2, r2, m2, q1, q2, q3, q4, kP, hkP, hkPi⟩ := Cond.selects_spec (hts _ hse)
  cases hclB.symm.trans q1
  cases (State.methodFound?_of_named hnamed ⟨hd.1, hd.2.1⟩).symm.trans q2
  cases hnamed.symm.trans q3
  have hselP : selectMethod e.platform s.vm cellB.cls mk = .method mk := by rw [Launch.admits_selectMethod X.admits]; exact q4
  have hlen : As.length = methM.sig.parameters.length := by
    have h3 := hd.2.2
    rw [hsigM] at h3
    exact hn.trans (Option.some.inj h3).symm
  obtain ⟨vm₁, X₁, hstep₁⟩ := X.invokevirtual hx hown (hts _ hl) hnamed hmethM hstM hkP hkPi ⟨hd.1, hd.2.1⟩ (a := a) (cell := cellB) hcB (VmData.ne_statics_of hoB) hselP hmethM habM hkP hkPi (g := F0 m pc ls st0) rfl (argsL := As) (rest := rest) hlen hst (by rw [hb]; exact hdg)
  have hW₁ : s.WarmedH vm₁ := X₁.warmed
  have hws : ∀ w ∈ (Cond.code y bytes maxL ret :: TW), w.before (Value.ref a :: As).toArray (T.setVm vm₁) = true := fun w hw => by
    obtain ⟨h1, h2⟩ := good_TW hco w hw
    exact word_at (U := T.setVm vm₁) hW₁ h2 (hts w h1)
  have hmY : (T.setVm vm₁).vm.method? mk = some methM := (hW₁.alike.method? mk).trans hmethM
  obtain ⟨kY, hkY, -⟩ := className_of_methodNamed (X₁.named hnamed)
  have hinitY : kY.init = .initialized := Cond.initialized_spec (findClass_of_methodNamed (X₁.named hnamed)) hkY (word_at (a' := #[]) (U := T.setVm vm₁) hW₁ (Or.inl (by first | rfl | simp [Cond.onTables, Cond.keeps, Cond.steady])) (hts _ hini))
  have happ : (headSpec (Cond.code y bytes maxL ret :: TW) rm).appliesLoose y e.platform ((T.setVm vm₁).calling (F0 m pc ls rest) mk (Value.ref a :: As).toArray) = true :=
    Spec.appliesLoose_calling (g := F0 m pc ls rest) X₁.here (by show decode c.code pc = _; rw [hb]; exact hdg) (X₁.named hnamed) hkY hinitY
      (X₁.room_calling (g := F0 m pc ls rest) (R' := rm) (hsz.trans hml.symm) hmY hcM hR.1 (by show 2 * (F0 m pc ls rest).monitorRoom + (rest.map fun v => v.category).sum + (cM.maxLocals + 11) + rm.locals ≤ R.locals; rw [hlM]; omega) (by rw [hz.1]; exact hf.1) (by rw [hz.2]; exact hf.2)) (atoms_intro hws)
  obtain ⟨mid, hmid⟩ := X₁.here.above
  have hfr : ((T.setVm vm₁).setTop (F0 m pc ls rest)).frames = (.java (F0 m pc ls rest) :: mid) ++ below := by rw [State.frames_setTop' _ X₁.here.top, hmid]; rfl
  obtain ⟨o, s₂, hsteps, -, hend, hq⟩ := Steps.callFree hM p X.admits X.cas X.clock (acts := []) hfr happ (RpY_blind _ _ (F0 m pc ls rest) mk (RpY_pre hC hY hX hS (T.setVm vm₁) rfl hW₁)) trivial
  obtain ⟨⟨h4, h5, h6, h7⟩, L, ⟨h8, h9⟩, h10⟩ := hq
  rcases h4 with h4 | ⟨-, x, ce, rfl, hce, hcs, hcc⟩
  · exact absurd h4.1 hk
  rw [State.frames_setTop' _ X₁.here.top, X₁.tail] at hend
  obtain ⟨T', X', hW', hsame', ht⟩ := X₁.outOfThrown (g := F0 m pc ls rest) rfl hend h8 h9
  have hh : T'.heap = s₂.heap := by rw [ht, Stand.throwing_heap]
  have hcc' : s.vm.findClass (exN E k) = some ce.cls := (hW₁.alike.findClass _ none).symm.trans hcc
  obtain ⟨vm', hw', hF⟩ := hfd T' _ _ _ x ce X' (by rw [hh]; exact hce) hcs hcc'
  obtain ⟨t, a1, b1⟩ := kk T'.heap (locs ++ L) x (by rw [hh]; exact h5)
    ⟨Nat.le_trans hS.1 (by rw [hh]; exact h6), fun q g1 g2 => by rw [hh, h7 q (Nat.lt_of_lt_of_le g1 hS.1) g2]; exact hS.2.1 q g1 g2, fun q hq => by
      rcases List.mem_append.mp hq with h | h
      · exact hS.2.2 q h
      · exact h10 q h⟩ (T'.setVm vm') rfl (X'.noted hw')
  exact ⟨t, hstep₁ t (fun acts => by rw [doInvoke_state]; exact hsteps.trans (by rw [ht]; exact ft_caught X'.here hF a1)), b1⟩
theorem ck_T {own : String} {y : MethodName} {bytes : ByteArray} {maxL n index nL : Nat} {ret : Option FieldType} {rm : Room} {S S' : ST} {E : String} {v : Option Value} {As st0 st1 : List Value} {a : Nat}
    (hM : MetX l y (Cond.code y bytes maxL ret :: TW) rm (va_Pc (.ref a :: As) (RpY D cA b ad S)) (QT D cA b ad E S' 0 v) 1 6 (Ab b))
    (hl : Cond.methodLink own index y ∈ TW) (hin : Cond.instanceMethod y ∈ TW) (hse : Cond.selects y.cls y y ∈ TW) (hco : Cond.code y bytes maxL ret ∈ TW) (hini : Cond.initialized y.cls ∈ TW)
    (hx : p.tables.exec = Jvm.exec) (hb : c.code = cc) (hts : ∀ w ∈ TW, w.before args s = true) (hown : s.vm.findClass own = some m.cls) (hC : Cx D cA b ad s) (hY : Cy b s) (hX : hp D cA b ad S H) (hS : va_S (Ab b) s.heap H locs)
    (hrc : ∃ cell : Cell, H[a]? = some cell ∧ cell.vm.isStatics = false ∧ s.vm.findClass y.cls = some cell.cls) (hml : c.maxLocals = nL) (hsz : ls.size = nL) (hR : rm.frames + 1 ≤ R.frames ∧ 8 + (maxL + 11) + rm.locals ≤ R.locals) (hz : rm.cells = 1 ∧ rm.slots = 6)
    (hd : y.cls ≠ "java/lang/invoke/MethodHandle" ∧ y.cls ≠ "java/lang/invoke/VarHandle" ∧ (parseMethodDescriptor y.desc).map (fun d => d.parameters.length) = some n) (hn : As.length = n)
    (hst : st0 = As.reverse ++ .ref a :: rest) (h1 : v.toList ++ rest = st1) (hroom : 2 * (F0 m pc ls st0).monitorRoom + (rest.map fun v => v.category).sum ≤ 8) (hdg : decode cc pc = .ok (.invokevirtual index, 3)) (hf : cells + 1 ≤ R.cells ∧ slots + 6 ≤ R.slots)
    (kk : ∀ (H : Heap) (locs : List Loc), hp D cA b ad S' H → va_S (Ab b) s.heap H locs → W p l e R s m args below meth c H locs (cells + 1) (slots + 6) Q (F0 m (pc + 3) ls st1)) : W p l e R s m args below meth c H locs cells slots Q (F0 m pc ls st0) :=
  ck_goN (va_runV (C := y.cls) (n := n) ⟨hx, hb, hml, hown, hts⟩ (mx_ret hM) ⟨callB_of n hts (good_TW hco) rfl hz.1 hz.2 (hts _ hini) (hts _ hl) hd hR, hts _ hin, hts _ hse⟩ ⟨RpY_blind, hrc, RpY_pre hC hY hX hS⟩ rfl hn hsz hst hroom hdg hf) hS h1 kk
/-- a contract of a method with handlers, out of the walk of its body -/
theorem Ct_ofW {y : MethodName} {maxL : Nat} {ret : Option FieldType} {rm : Room} {as : List Value} {S : ST} {Qc : Array Value → State → Outcome → State → Prop} {hh : List (Nat × Nat × Nat × Nat)} (hy : plainName y.cls = true) (hn : (lg_sl as).length ≤ maxL)
    (body : ∀ (p : Program) (e : Env) (R : Room) (s : State) (m : MethodId) (args : Array Value) (below : List Frame) (meth : Method) (c : Code) (ls : Array Slot) (Q : State → Prop) (H : Heap) (locs : List Loc), R = rm → Q = MQ below Qc args s 1 6 (Ab b) → p.tables.exec = Jvm.exec → c.code = cc → (∀ w ∈ TW, w.before args s = true) → s.vm.findClass y.cls = some m.cls → c.maxLocals = maxL → meth.sig.returnType = ret → meth.locks = false → Cx D cA b ad s → Cy b s → hp D cA b ad S H → va_S (Ab b) s.heap H locs → lv_has ls maxL (lv_args 0 as) → c.exceptionTable.toList.map (fun h => (h.startPc, h.endPc, h.handlerPc, h.catchType)) = hh → W p l e R s m args below meth c H locs 0 0 Q (F0 m 0 ls [])) :
    Met l y (Cond.codeWith y cc maxL ret hh :: TW) rm (va_Pc as (RpY D cA b ad S)) Qc 1 6 (Ab b) := by
  refine va_MetW (cc := cc) (maxL := maxL) (ret := ret) (hh := hh) hy rfl ?_
  intro p e s m args below meth c s₁ B hml hv
  obtain ⟨rfl, hX, hC, hY⟩ := hv
  have hts := atoms_spec (ws := Cond.codeWith y cc maxL ret hh :: TW) B.pre
  have hl := lv_entry as (n := maxL) hn
  obtain ⟨m9, meth9, c9, hn9, h1, h2, h3, h4, h5, -⟩ := Cond.codeWith_spec (hts _ List.mem_cons_self)
  cases B.named.symm.trans hn9
  cases B.method.symm.trans h1
  cases (Stand.of_body B).code.symm.trans h2
  rw [lg_entry_eq]
  exact body p e _ s m _ below meth c _ _ s.heap [] rfl rfl B.exec B.bytes (fun w hw => hts w (List.mem_cons_of_mem _ hw)) (findClass_of_methodNamed B.named) hml B.returns B.notSynchronized hC hY hX va_S.rf hl h5
theorem at_o {C : CS} {M : MS} {o : Nat → Int64} : (wO cA b ad (C, M, o))[293]? = some (b + 293, .inl (cA 1, 1, .inr (.inl o))) := by
  rw [wO_at _ _ _ _ (by decide)]
  rfl
theorem o_ald (hx : p.tables.exec = Jvm.exec) (hb : c.code = cc) (hC : Cx D cA b ad s) {C : CS} {M : MS} {o : Nat → Int64} (hX : hp D cA b ad (C, M, o) H) (hdg : decode cc pc = .ok (.laload, 1)) (kk : W p l e R s m args below meth c H locs cells slots Q (F0 m (pc + 1) ls (.long (o 0) :: rest))) : W p l e R s m args below meth c H locs cells slots Q (F0 m pc ls (.int 0 :: .ref (b + 293) :: rest)) :=
  va_lald hx hb hC.1 hX 293 1 at_o rfl (inbd_in (i := 0) (n := 1) (by decide)) hdg kk
theorem o_ast {v : Int64} (hx : p.tables.exec = Jvm.exec) (hb : c.code = cc) (hC : Cx D cA b ad s) {C : CS} {M : MS} {o : Nat → Int64} (hX : hp D cA b ad (C, M, o) H) (hS : va_S (Ab b) s.heap H locs) (hdg : decode cc pc = .ok (.lastore, 1)) (kk : ∀ (H : Heap) (locs : List Loc), hp D cA b ad (C, M, va_up o 0 v) H → va_S (Ab b) s.heap H locs → W p l e R s m args below meth c H locs cells slots Q (F0 m (pc + 1) ls rest)) : W p l e R s m args below meth c H locs cells slots Q (F0 m pc ls (.long v :: .int 0 :: .ref (b + 293) :: rest)) := by
  refine va_last hx hb hC.1 hX (wO_D cA b ad _) hS 293 1 at_o rfl (inbd_in (i := 0) (n := 1) (by decide)) hdg (fun H1 locs1 hP _ hS1 => kk H1 locs1 ?_ hS1)
  have e1 : (wO cA b ad (C, M, o)).set 293 (b + 293, .inl (cA 1, 1, .inr (.inl (vp_updL o (0 : Int32).toNatClampNeg v)))) = wO cA b ad (C, M, va_up o 0 v) := by
    apply List.ext_getElem?
    intro i
    by_cases hi : i < 294
    · by_cases hik : i = 293
      · subst hik
        rw [List.getElem?_set_self (by rw [wO_len]; exact hi), wO_at _ _ _ _ hi]
        rfl
      · rw [List.getElem?_set_ne (Ne.symm hik), wO_at _ _ _ _ hi, wO_at _ _ _ _ hi]
        have hlt : i < 293 := by omega
        unfold cS
        rw [if_pos hlt, if_pos hlt]
    · rw [List.getElem?_eq_none (by rw [List.length_set, wO_len]; omega), List.getElem?_eq_none (by rw [wO_len]; omega)]
  unfold hp
  rw [← e1]
  exact hP
end CAT
