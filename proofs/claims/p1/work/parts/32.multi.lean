/-! the array of arrays -/
def mU (T : State) (a : Nat) (c7 c0 : ClassId) : Nat → State
  | 0 => T.pushCell (arrV c7 8 (fun _ => .null))
  | i + 1 => ((mU T a c7 c0 i).pushCell (arrV c0 5 (fun _ => .int 0))).setCell a (arrV c7 8 (fun j => if j < i + 1 then .ref (a + 1 + j) else .null))
theorem mU_st (c7 : ClassId) (a i : Nat) : (arrV c7 8 (fun j => if j < i then Value.ref (a + 1 + j) else .null)).setSlot i (.ref (a + 1 + i)) = arrV c7 8 (fun j => if j < i + 1 then .ref (a + 1 + j) else .null) := by
  rw [arrV_store]
  congr 1
  funext j
  unfold updV
  by_cases h : j = i
  · subst h; rw [if_pos rfl, if_pos (Nat.lt_succ_self _)]
  · rw [if_neg h]
    show (if j < i then Value.ref (a + 1 + j) else Value.null) = _
    by_cases h2 : j < i
    · rw [if_pos h2, if_pos (by omega)]
    · rw [if_neg h2, if_neg (by omega)]
theorem mU_vm (T : State) (a : Nat) (c7 c0 : ClassId) : ∀ i, (mU T a c7 c0 i).vm = T.vm
  | 0 => rfl
  | i + 1 => mU_vm T a c7 c0 i
theorem arrV_cg {c : ClassId} {N : Nat} {f g : Nat → Value} (h : ∀ j, j < N → f j = g j) : arrV c N f = arrV c N g := by
  unfold arrV
  congr 2
  funext j
  exact h j.val j.isLt
section MUL
variable {p : Program} {l : Launch} {e : Env} {R : Room} {s : State} {m : MethodId} {args : Array Value} {below : List Frame} {meth : Method} {c : Code} {H : Heap} {locs : List Loc} {cells slots : Nat} {Q : State → Prop}
variable {cc : ByteArray} {pc : Nat} {ls : Array Slot} {rest : List Value} {D : va_G} {cA : Nat → ClassId} {b : Nat} {ad : Nat → Nat} {ws : va_W} {k n : Nat}
theorem mU_F {T : State} {a : Nat} {c7 c0 : ClassId} (X : Stand p l e R s m args below meth c T locs cells slots) (hz : T.heap.size = a) : ∀ i, i ≤ 8 → ∃ L : List Loc, Stand p l e R s m args below meth c (mU T a c7 c0 i) (locs ++ L) (cells + 1 + i) (slots + 8 + 5 * i) ∧ (∀ q ∈ L, q.base = a) ∧ (mU T a c7 c0 i).heap.size = a + 1 + i ∧ (mU T a c7 c0 i).heap[a]? = some (arrV c7 8 (fun j => if j < i then .ref (a + 1 + j) else .null)) ∧ (∀ j, j < i → (mU T a c7 c0 i).heap[a + 1 + j]? = some (arrV c0 5 (fun _ => .int 0))) ∧ ∀ q, q < a → (mU T a c7 c0 i).heap[q]? = T.heap[q]?
  | 0, _ => by
    subst hz
    refine ⟨[], ?_, fun q hq => (List.not_mem_nil hq).elim, ?_, ?_, fun j hj => absurd hj (Nat.not_lt_zero _), fun q hq => ?_⟩
    · have h := X.pushed (arrV c7 8 (fun _ => .null))
      rw [List.append_nil]
      rw [arrV_size] at h
      exact h
    · show (T.heap.push _).size = _
      rw [Array.size_push]
    · show (T.heap.push _)[T.heap.size]? = _
      rw [Array.getElem?_push_size]
      rfl
    · show (T.heap.push _)[q]? = _
      rw [Array.getElem?_push, if_neg (by omega)]
  | i + 1, hi => by
    obtain ⟨L, X1, hL, z1, e1, f1, o1⟩ := mU_F (c7 := c7) (c0 := c0) X hz i (by omega)
    have X2 := X1.pushed (arrV c0 5 (fun _ => .int 0))
    rw [arrV_size] at X2
    have hlt : a < (mU T a c7 c0 i).heap.size := by omega
    have e2 : ((mU T a c7 c0 i).pushCell (arrV c0 5 (fun _ => .int 0))).heap[a]? = some (arrV c7 8 (fun j => if j < i then .ref (a + 1 + j) else .null)) := by
      show ((mU T a c7 c0 i).heap.push _)[a]? = _
      rw [Array.getElem?_push, if_neg (by omega)]
      exact e1
    have X3 := X2.stored e2 i (.ref (a + 1 + i))
    rw [mU_st] at X3
    refine ⟨L ++ [⟨a, i⟩], ?_, fun q hq => ?_, ?_, ?_, fun j hj => ?_, fun q hq => ?_⟩
    · rw [← List.append_assoc]
      exact X3
    · rcases List.mem_append.mp hq with h | h
      · exact hL q h
      · rw [List.mem_singleton.mp h]
    · show (((mU T a c7 c0 i).heap.push _).setIfInBounds a _).size = _
      rw [Array.size_setIfInBounds, Array.size_push, z1]
      omega
    · show (((mU T a c7 c0 i).heap.push _).setIfInBounds a _)[a]? = _
      rw [Array.getElem?_setIfInBounds, if_pos rfl, if_pos (by rw [Array.size_push]; omega)]
    · show (((mU T a c7 c0 i).heap.push _).setIfInBounds a _)[a + 1 + j]? = _
      rw [Array.getElem?_setIfInBounds, if_neg (by omega), Array.getElem?_push]
      by_cases h : j = i
      · subst h
        rw [if_pos (by omega)]
      · rw [if_neg (by omega)]
        exact f1 j (by omega)
    · show (((mU T a c7 c0 i).heap.push _).setIfInBounds a _)[q]? = _
      rw [Array.getElem?_setIfInBounds, if_neg (by omega), Array.getElem?_push, if_neg (by omega)]
      exact o1 q hq
theorem mU_top {T : State} {a : Nat} {c7 c0 : ClassId} (h : T.topJava?.isSome) : ∀ i, (mU T a c7 c0 i).topJava?.isSome
  | 0 => h
  | i + 1 => mU_top h i
theorem az_24 {k : Nat} (h : kd k = 24) : cS cA b ad Z0 k = .inl (cA 7, 8, .inr (.inr (.inr (.inr (fun j => some (b + (k + (1 + j)))))))) := by
  show cS cA b ad (C0, M0, fun _ => 0) k = _
  rw [cS_c (kd_lt h (by decide))]
  simp only [cC, h]
theorem wI_at {sz i : Nat} {q : Nat × va_E} (h : (wI cA b ad (List.range' n sz))[i]? = some q) : i < sz ∧ q = (b + (n + i), cS cA b ad Z0 (n + i)) := by
  unfold wI at h
  rw [List.getElem?_map] at h
  cases hj : (List.range' n sz)[i]? with
  | none => rw [hj] at h; cases h
  | some j =>
    have l1 := (List.getElem?_eq_some_iff.mp hj).1
    rw [List.length_range'] at l1
    rw [List.getElem?_range' l1, Nat.one_mul] at hj
    have hj := Option.some.inj hj
    rw [List.getElem?_range' l1, Nat.one_mul] at h
    exact ⟨l1, (Option.some.inj h).symm⟩
theorem mna_cold {Q : Unit → Pre} {E : CtlPost} {d : Bool} {acts : List Action} {s : State} {f : JFrame} {index cx dims : Nat} {vm' : Vm} (hs : s.topJava?.isSome) (hg : (Jvm.resolveClass f.method.cls index).Gives e.toSetting s.vm (.ok cx) vm') (hr : vm'.classReady f.method.cls index cx) (hsz : vm'.classes.size ≤ s.vm.classes.size := by no_record) :
    Sem.wp (Jvm.Op.multianewarray.sem index dims) Q E e d acts (s.setTop f) ↔ Sem.wp (Jvm.Op.multianewarray.sem index dims) Q E e d acts ((s.setVm vm').setTop f) := by
  simp only [Jvm.Op.multianewarray.sem, Sem.wp_bind']
  exact W.resolveClassAt_transfer (s := s.setTop f) (State.method?_setTop f hs) hg hr hsz
theorem mna_wp {Q : Unit → Pre} {E : CtlPost} {d : Bool} {acts : List Action} {T : State} {f : JFrame} {index : Nat} {c7 c0 cI : ClassId} {kM kI : Class} (X : Stand p l e R s m args below meth c T locs cells slots) (hcells : cells + 9 ≤ R.cells) (hslots : slots + 48 ≤ R.slots) (hr : T.vm.classReady f.method.cls index c7) (hst : f.stack = .int 5 :: .int 8 :: rest)
    (hkM : T.vm.classes[c7]? = some kM) (hkindM : kM.kind = .array c0 (.array .int)) (hkI : T.vm.classes[c0]? = some kI) (hkindI : kI.kind = .array cI .int)
    (hq : ∀ d' acts', Q () d' acts' ((mU T T.heap.size c7 c0 8).setTop { f with stack := .ref T.heap.size :: rest })) : Sem.wp (Jvm.Op.multianewarray.sem index 2) Q E e d acts (T.setTop f) := by
  have hs := X.here.top
  have hl8 : ¬ 8 > e.platform.arrayLengthLimit := by rw [Launch.admits_arrayLengthLimit X.admits]; omega
  have hl5 : ¬ 5 > e.platform.arrayLengthLimit := by rw [Launch.admits_arrayLengthLimit X.admits]; omega
  have hh8 : ¬ 8 * componentBytes (.array .int) > e.platform.maxHeapBytes := by rw [Launch.admits_maxHeapBytes X.admits]; show ¬ 8 * 4 > 536870912; omega
  have hh5 : ¬ 5 * componentBytes .int > e.platform.maxHeapBytes := by rw [Launch.admits_maxHeapBytes X.admits]; show ¬ 5 * 4 > 536870912; omega
  obtain ⟨hr1, hr2⟩ := X.roomAbove (a := 9) (b := 48) hcells hslots
  simp only [Jvm.Op.multianewarray.sem, Sem.wp_bind', W.resolveClassAt_ready (State.method?_setTop f hs) hr]
  refine (Jvm.Op.popN_top (args := [.int 8, .int 5]) hs (by rw [hst]; rfl)).mpr ?_
  simp only [List.mapM_cons, List.mapM_nil, Sem.wp_bind', Sem.wp_pure', Jvm.Op.multianewarray.make, W.ite, show ¬ (8 : Int32) < 0 by decide, if_false, W.theClass, State.vm_setTop, hkM, Option.some.injEq, exists_eq_left', hkindM, W.mark]
  refine W.newArray_of (s := T.setTop _) (k := kM) hkM hkindM hl8 hh8 (by show T.heap.size < _; omega) (by show T.slotsUsed + 8 ≤ _; omega) rfl fun acts1 => ?_
  rw [if_neg (by decide)]
  simp only [Sem.wp_bind', Std.Legacy.Range.forIn_eq_forIn_range', Std.Legacy.Range.size]
  have i8 : (Int32.toNatClampNeg 8 - 0 + 1 - 1) / 1 = 8 := by decide
  rw [i8]
  have hm : ∀ i, i ≤ 8 → ∃ L : List Loc, Stand p l e R s m args below meth c (mU T T.heap.size c7 c0 i) (locs ++ L) (cells + 1 + i) (slots + 8 + 5 * i) ∧ (mU T T.heap.size c7 c0 i).heap.size = T.heap.size + 1 + i ∧ (mU T T.heap.size c7 c0 i).heap[T.heap.size]? = some (arrV c7 8 (fun j => if j < i then .ref (T.heap.size + 1 + j) else .null)) := fun i hi => by
    obtain ⟨L, X1, -, z1, e1, -, -⟩ := mU_F (c7 := c7) (c0 := c0) X rfl i hi
    exact ⟨L, X1, z1, e1⟩
  refine wp_forIn_inv (fun r S => ∃ i, i ≤ 8 ∧ r = List.range' i (8 - i) ∧ S = (mU T T.heap.size c7 c0 i).setTop { f with stack := rest }) _ _ ⟨0, by omega, rfl, ?_⟩ ?_ ?_
  · rw [State.pushCell_setTop]
    show (T.pushCell _).setTop _ = (T.pushCell _).setTop _
    rw [← arrV_new]
    rfl
  · rintro x r S' d' acts' Q' ⟨i, hi, hr', rfl⟩ hnext
    have hi8 : i < 8 := by
      rcases Nat.lt_or_ge i 8 with h | h
      · exact h
      · rw [show 8 - i = 0 by omega] at hr'
        cases hr'
    rw [show 8 - i = (7 - i) + 1 by omega, List.range'_succ] at hr'
    obtain ⟨rfl, rfl⟩ := List.cons.inj hr'
    obtain ⟨L, X1, z1, e1⟩ := hm x (by omega)
    obtain ⟨q1, q2⟩ := X1.roomAbove (a := 1) (b := 5) (by omega) (by omega)
    rw [if_neg (by decide)]
    simp only [Sem.wp_bind', W.theClass, State.vm_setTop, mU_vm, hkI, Option.some.injEq, exists_eq_left', hkindI]
    refine W.newArray_of (s := (mU T T.heap.size c7 c0 x).setTop _) (k := kI) (by show (mU T T.heap.size c7 c0 x).vm.classes[c0]? = _; rw [mU_vm]; exact hkI) hkindI hl5 hh5 (by show (mU T T.heap.size c7 c0 x).heap.size < _; omega) (by show (mU T T.heap.size c7 c0 x).slotsUsed + 5 ≤ _; exact q2) rfl fun acts2 => ?_
    simp only [W.writeLoc, Sem.wp_pure', State.heap_setTop, State.pushCell_setTop]
    have e2 : ((mU T T.heap.size c7 c0 x).pushCell { cls := c0, slots := Array.replicate (Int32.toNatClampNeg 5) (defaultValue FieldType.int) }).heap[T.heap.size]? = some (arrV c7 8 (fun j => if j < x then .ref (T.heap.size + 1 + j) else .null)) := by
      show ((mU T T.heap.size c7 c0 x).heap.push _)[T.heap.size]? = _
      rw [Array.getElem?_push, if_neg (by omega)]
      exact e1
    refine ⟨_, e2, (fun z => by cases z), by rw [arrV_size]; omega, ?_, ?_⟩
    · show State.fitsSlot _ c7 .none x _ = true
      have hv : ((mU T T.heap.size c7 c0 x).pushCell { cls := c0, slots := Array.replicate (Int32.toNatClampNeg 5) (defaultValue FieldType.int) }).vm.classes[c7]? = some kM := by
        show (mU T T.heap.size c7 c0 x).vm.classes[c7]? = _
        rw [mU_vm]
        exact hkM
      simp [State.fitsSlot, State.slotType?, hv, mU_vm, hkM, hkindM, fits]
    · refine hnext _ _ _ ⟨x + 1, by omega, by rw [show 8 - (x + 1) = 7 - x by omega], ?_⟩
      rw [z1, show T.heap.size + 1 + x = T.heap.size + 1 + x from rfl, mU_st, State.setCell_setTop, mU]
      rw [show ({ cls := c0, slots := Array.replicate (Int32.toNatClampNeg 5) (defaultValue FieldType.int) } : Cell) = arrV c0 5 (fun _ => .int 0) from arrV_new c0 5 (.int 0)]
  · rintro S' d' acts' ⟨i, hi, hr', rfl⟩
    have hi8 : i = 8 := by
      rcases Nat.lt_or_ge i 8 with h | h
      · rw [show 8 - i = (7 - i) + 1 by omega, List.range'_succ] at hr'
        cases hr'
      · omega
    subst hi8
    obtain ⟨L, X1, -, -⟩ := hm 8 (by omega)
    simp only [Sem.wp_pure', Sem.wp_bind', W.mark, W.pushRef, State.topJava?_setTop' _ X1.here.top, Option.some.injEq, exists_eq_left', State.setTop_setTop]
    exact hq _ _
theorem kr_multi {own : String} {index : Nat} (hx : p.tables.exec = Jvm.exec) (hb : c.code = cc) (hts : ∀ w ∈ TW, w.before args s = true) (hown : s.vm.findClass own = some m.cls) (hcl : Cond.classLink own index "[[I" ∈ TW) (hC : Cx D cA b ad s) (hA : Ca s)
    (hP : va_P D kCl ws H) (hD : va_D (Ab (b + k)) ws) (hS : va_S (Ab (b + k)) s.heap H locs) (hkn : k ≤ n) (hz : H.size = b + n) (hkd : kd n = 24) (hkd8 : ∀ j, j < 8 → kd (n + 1 + j) = 25) (hcells : cells + 9 ≤ R.cells) (hslots : slots + 48 ≤ R.slots) (hdg : decode cc pc = .ok (.multianewarray index 2, 4))
    (kk : ∀ (H : Heap) (locs : List Loc), va_P D kCl (ws ++ wI cA b ad (List.range' n 9)) H → va_D (Ab (b + k)) (ws ++ wI cA b ad (List.range' n 9)) → va_S (Ab (b + k)) s.heap H locs → H.size = b + n + 9 → W p l e R s m args below meth c H locs (cells + 9) (slots + 48) Q (F0 m (pc + 4) ls (.ref (b + n) :: rest))) : W p l e R s m args below meth c H locs cells slots Q (F0 m pc ls (.int 5 :: .int 8 :: rest)) := by
  intro T hT X
  subst hT; subst hb
  have hpl : e.platform.magicAccessors = ({} : Platform).magicAccessors := by rw [X.admits.platform]
  obtain ⟨comp, cM, kM, hcomp, hkM, hkindM, hnameM⟩ := hA.2.2.2
  have h0 : comp = cA 0 := Option.some.inj (hcomp.symm.trans (hC.1.2 0 _ rfl).2)
  have h7 : cM = cA 7 := Option.some.inj (hnameM.symm.trans (hC.1.2 7 _ rfl).2)
  subst h0; subst h7
  obtain ⟨-, kI, hkI, compI, hkindI⟩ := (hC.1.2 0 _ rfl).1 0 (fun _ => .null)
  obtain ⟨cc', hfcc, hcl'⟩ := Cond.classLink_spec hown (hts _ hcl) e.platform hpl
  have h8 : cc' = cA 7 := Option.some.inj (hfcc.symm.trans hnameM)
  subst h8
  obtain ⟨hg₁, hwarm₁, hready₁⟩ := State.classEntry (e := e) X.warmed hcl'
  generalize T.vm.noted m.cls index (.cls (cA 7)) = vm₁ at hg₁ hwarm₁ hready₁
  have hal : s.vm.Alike vm₁ := hwarm₁.alike
  obtain ⟨kM₁, hkM₁, heM⟩ := hal.2.2 _ _ hkM
  have hkindM₁ : kM₁.kind = .array (cA 0) (.array .int) := by rw [heM]; exact hkindM
  obtain ⟨kI₁, hkI₁, heI⟩ := hal.2.2 _ _ hkI
  have hkindI₁ : kI₁.kind = .array compI .int := by rw [heI]; exact hkindI
  have X₁ := X.noted hwarm₁
  obtain ⟨L, X2, hL, z1, e1, f1, o1⟩ := mU_F (T := T.setVm vm₁) (c7 := cA 7) (c0 := cA 0) X₁ (show (T.setVm vm₁).heap.size = b + n from hz) 8 (Nat.le_refl _)
  have hk : ∀ (k : Nat) (x : Nat × va_E), ws[k]? = some x → (mU (T.setVm vm₁) (b + n) (cA 7) (cA 0) 8).heap[x.1]? = T.heap[x.1]? := fun k x hx => o1 x.1 (hz ▸ (hP k x hx).lt)
  have hcell : va_P D kCl (wI cA b ad (List.range' n 9)) (mU (T.setVm vm₁) (b + n) (cA 7) (cA 0) 8).heap := fun i q hq => by
    obtain ⟨h1, rfl⟩ := wI_at hq
    by_cases hi : i = 0
    · subst hi
      show va_at D kCl (b + n, cS cA b ad Z0 n) _
      rw [az_24 hkd]
      show _ = some (vp_cell _ _)
      rw [vp_cell_q, e1]
      refine congrArg some (arrV_cg (fun j hj => ?_))
      show (if j < 8 then Value.ref (b + n + 1 + j) else .null) = .ref (b + (n + (1 + j)))
      rw [if_pos hj, show b + n + 1 + j = b + (n + (1 + j)) by omega]
    · obtain ⟨j, rfl⟩ : ∃ j, i = j + 1 := ⟨i - 1, by omega⟩
      have hk25 := hkd8 j (by omega)
      rw [show n + (j + 1) = n + 1 + j by omega, az_25 hk25]
      show _ = some (vp_cell _ _)
      rw [show b + (n + 1 + j) = b + n + 1 + j by omega, f1 j (by omega)]
      rfl
  obtain ⟨t, a1, b1⟩ := kk _ (locs ++ L) ((hP.kept hk).app hcell) (va_D.app hD (wI_D hkn) (fun i j x y hi hj => by have := lt_of_P hP hz i x hi; have := wI_ge hj; omega))
    ⟨Nat.le_trans hS.1 (by omega), fun x g1 g2 => (o1 x (hz ▸ Nat.lt_of_lt_of_le g1 hS.1)).trans (hS.2.1 x g1 g2), fun q hq => by
      rcases List.mem_append.mp hq with h | h
      · exact hS.2.2 q h
      · show b + k ≤ q.base
        rw [hL q h]
        omega⟩ z1 (mU (T.setVm vm₁) (b + n) (cA 7) (cA 0) 8) rfl (by simpa using X2)
  · refine ⟨t, ?_, b1⟩
    refine Steps.instr (c := _) (by simpa using X.here) ?_
    rw [hdg]
    show Sem.wp (p.tables.exec (.multianewarray index 2)) _ _ e false [] _
    rw [hx]
    show Sem.wp (Jvm.Op.multianewarray.sem index 2) _ _ e false [] _
    refine (mna_cold (s := T) X.here.top hg₁ hready₁).mpr ?_
    refine mna_wp (T := T.setVm vm₁) (rest := rest) X₁ hcells hslots hready₁ rfl hkM₁ hkindM₁ hkI₁ hkindI₁ fun d' acts' acts'' => ?_
    rw [afterInstr_ok]
    rw [show (T.setVm vm₁).heap.size = b + n from hz]
    exact a1
end MUL
