/-! the state of a fresh pair: what the constructors leave -/
def i0 (k j : Nat) : Int32 := match kd k with
  | 2 => if j = 3 ∨ j = 4 then -1 else 0
  | 14 => if j = 2 ∨ j = 11 then -1 else 0
  | 22 => if j = 3 then -1 else 0
  | _ => 0
def r0 (k _j : Nat) : Nat := match kd k with
  | 0 => 124
  | 2 => 7
  | _ => 0
def C0 : CS := (i0, fun _ _ => 0, r0, fun _ _ => false)
def M0 : MS := (fun k j => if k = 0 ∧ j = 10 then -1 else 0, fun _ _ => 0, fun _ _ => 0, fun _ _ => false)
def Z0 : ST := (C0, M0, fun _ => 0)
def wI (cA : Nat → ClassId) (b : Nat) (ad : Nat → Nat) (is : List Nat) : va_W := is.map fun j => (b + j, cS cA b ad Z0 j)
def va_AA (U : State) : Prop := ∃ (comp c : ClassId) (k : Class), U.vm.findClass (FieldType.array .int).toString = some comp ∧ U.vm.classes[c]? = some k ∧ k.kind = .array comp (.array .int) ∧ U.vm.findClass ("[" ++ (FieldType.array .int).toString) = some c
theorem va_AA.of {args : Array Value} {U : State} (h : (Cond.arrayOver (.array .int)).before args U = true) : va_AA U := by
  obtain ⟨comp, c, k, h1, -, h3, h4, h5⟩ := arrayOverA_spec h
  exact ⟨comp, c, k, h1, h3, h4, h5⟩
theorem va_AA.moved {u U : State} (hvm : u.vm.Alike U.vm) (h : va_AA u) : va_AA U := by
  obtain ⟨comp, c, k, h1, h3, h4, h5⟩ := h
  obtain ⟨k', hk', he⟩ := hvm.2.2 _ _ h3
  exact ⟨comp, c, k', by rw [hvm.findClass]; exact h1, hk', by rw [he]; exact h4, by rw [hvm.findClass]; exact h5⟩
def Ca (U : State) : Prop := va_AO "TypeGuard$Names" U ∧ va_AO "TypeGuard$Rule" U ∧ va_AO "TypeGuard$Entry" U ∧ va_AA U
theorem Ca_to {u U : State} (h : Ca u) (hW : u.WarmedH U.vm) : Ca U := ⟨h.1.moved hW.alike, h.2.1.moved hW.alike, h.2.2.1.moved hW.alike, h.2.2.2.moved hW.alike⟩
section CTR
variable {p : Program} {l : Launch} {e : Env} {R : Room} {s : State} {m : MethodId} {args : Array Value} {below : List Frame} {meth : Method} {c : Code} {H : Heap} {locs : List Loc} {cells slots : Nat} {Q : State → Prop}
variable {cc : ByteArray} {pc : Nat} {ls : Array Slot} {rest : List Value} {D : va_G} {cA : Nat → ClassId} {b : Nat} {ad : Nat → Nat} {ws : va_W} {k n : Nat}
def Kp (D : va_G) (cA : Nat → ClassId) (b : Nat) (ad : Nat → Nat) (n : Nat) (E : va_E) (U : State) : Prop := U.heap.size = b + n + 1 ∧ va_at D kCl (b + n, E) U.heap ∧ Cx D cA b ad U ∧ Ca U
def Kq (D : va_G) (cA : Nat → ClassId) (b : Nat) (ad : Nat → Nat) (n sz : Nat) : Array Value → State → Outcome → State → Prop := fun _ st o t => o = .returned none ∧ t.heap.size = b + n + sz ∧ va_P D kCl (wI cA b ad (List.range' n sz)) t.heap ∧ va_F (Ab (b + n)) st t
theorem Kp_blind {as : List Value} {E : va_E} : FrameBlind (va_Pc as (Kp D cA b ad n E)) := fun a U g mk h => ⟨h.1, h.2.1, h.2.2.1, Cx_to h.2.2.2.1 (State.WarmedH.refl U) (fun _ _ _ => rfl), h.2.2.2.2⟩
theorem ab_up {q : Nat} (h : Ab (b + n) q) : Ab b q := Nat.le_trans (Nat.le_add_right b n) h
theorem Kp_pre {as : List Value} {E : va_E} (hC : Cx D cA b ad s) (hA : Ca s) (hz : H.size = b + n + 1) (hB : va_at D kCl (b + n, E) H) (hS : va_S (Ab (b + k)) s.heap H locs) : ∀ U : State, U.heap = H → s.WarmedH U.vm → va_Pc as (Kp D cA b ad n E) as.toArray U := by
  intro U hU hW
  subst hU
  exact ⟨rfl, hz, hB, Cx_to hC hW (fun a h1 h2 => hS.2.1 a h1 (fun h3 => h2 (ab_up h3))), Ca_to hA hW⟩
theorem kr_size (hs : s.heap.size + cells ≤ b + n) (hlow : b + n ≤ H.size) {g : JFrame} (kk : H.size = b + n → W p l e R s m args below meth c H locs cells slots Q g) : W p l e R s m args below meth c H locs cells slots Q g := fun T hT X => by
  have h := X.heapSize
  rw [hT] at h
  exact kk (by omega) T hT X
theorem wat {ws : va_W} {q a : Nat} {E E' : va_E} (h1 : ws[q]? = some (a, E)) (h2 : E = E') : ws[q]? = some (a, E') := h2 ▸ h1
theorem kr_arr {N t : Nat} {atype : ArrayType} {ty : FieldType} {a0 : vp_A} {z : Int32} (hx : p.tables.exec = Jvm.exec) (hb : c.code = cc) (hts : ∀ w ∈ TW, w.before args s = true) (harr : Cond.arrayClass (newarray.typeOf atype) ∈ TW) (hty : newarray.typeOf atype = ty)
    (hP : va_P D kCl ws H) (hD : va_D (Ab (b + k)) ws) (hS : va_S (Ab (b + k)) s.heap H locs) (hkn : k ≤ n) (hz : H.size = b + n) (hcS : cS cA b ad Z0 n = .inl (cA t, a0)) (hRA : s.vm.findClass ("[" ++ ty.toString) = some (cA t)) (ha : ∀ c, vp_cell c a0 = arrV c N (fun _ => defaultValue ty))
    (h0 : ¬ z < 0) (hN : z.toNatClampNeg = N) (hby : N * componentBytes ty ≤ 536870912) (hcells : cells + 1 ≤ R.cells) (hslots : slots + N ≤ R.slots) (hdg : decode cc pc = .ok (.newarray atype, 2))
    (kk : ∀ (H : Heap), va_P D kCl (ws ++ [(b + n, cS cA b ad Z0 n)]) H → va_D (Ab (b + k)) (ws ++ [(b + n, cS cA b ad Z0 n)]) → va_S (Ab (b + k)) s.heap H locs → H.size = b + n + 1 → W p l e R s m args below meth c H locs (cells + 1) (slots + N) Q (F0 m (pc + 2) ls (.ref (b + n) :: rest))) : W p l e R s m args below meth c H locs cells slots Q (F0 m pc ls (.int z :: rest)) := by
  subst hty
  refine va_newaK hx hb (hts _ harr) rfl hdg rfl h0 hN hby hcells hslots hz fun H1 cA' e1 z1 o1 hAr hNm => ?_
  have hcc : cA' = cA t := Option.some.inj (hNm.symm.trans hRA)
  subst hcc
  have hk : ∀ (k : Nat) (x : Nat × va_E), ws[k]? = some x → H1[x.1]? = H[x.1]? := fun k x hx => o1 x.1 (hz ▸ (hP k x hx).lt)
  refine kk H1 ((hP.kept hk).app (fun k x hx => ?_)) (hD.push hP hz.symm (by show b + k ≤ b + n; omega)) ⟨Nat.le_trans hS.1 (by omega), fun x h1 h2 => (o1 x (hz ▸ Nat.lt_of_lt_of_le h1 hS.1)).trans (hS.2.1 x h1 h2), hS.2.2⟩ z1
  have hz1 : k < 1 := (List.getElem?_eq_some_iff.mp hx).1
  rw [show k = 0 by omega] at hx
  cases hx
  rw [hcS]
  show H1[b + n]? = some (vp_cell _ _)
  rw [ha]
  exact e1
theorem kr_new {own C : String} {T : u_T} {N ci index : Nat} (hx : p.tables.exec = Jvm.exec) (hb : c.code = cc) (hts : ∀ w ∈ TW, w.before args s = true) (hin : ∀ w ∈ u_ws C T N, w ∈ TW) (ty : Nat → FieldType) (hty : ∀ k, k < N → parseFieldDescriptor (T k).2.2.1 = some (ty k)) (hown : s.vm.findClass own = some m.cls)
    (hcl : Cond.classLink own index C ∈ TW) (hinst : Cond.instantiable C N ∈ TW) (hini : Cond.initialized C ∈ TW) (hC : Cx D cA b ad s) (hP : va_P D kCl ws H) (hS : va_S (Ab (b + k)) s.heap H locs) (hz : H.size = b + n) (hc : kCl[ci]? = some (C, T, N)) {fs : List Value} (hfs : ∀ j, j < N → defaultValue (ty j) = vp_V fs j)
    (hcells : cells + 1 ≤ R.cells) (hslots : slots + N ≤ R.slots) (hdg : decode cc pc = .ok (.new index, 3))
    (kk : ∀ (H : Heap), va_P D kCl ws H → (∀ (i : Nat) (q : Nat × va_E), ws[i]? = some q → q.1 < b + n) → va_at D kCl (b + n, .inr (ci, fs)) H → va_S (Ab (b + k)) s.heap H locs → H.size = b + n + 1 → W p l e R s m args below meth c H locs (cells + 1) (slots + N) Q (F0 m (pc + 3) ls (.ref (b + n) :: rest))) : W p l e R s m args below meth c H locs cells slots Q (F0 m pc ls rest) := by
  have hKn := hC.1.1 ci _ hc
  refine W.newcK hx hb hown (hts _ hcl) (hts _ hinst) (hts _ hini) rfl hdg hcells hslots hKn.2.1 hz fun H1 kC hkC e1 z1 o1 => ?_
  have hk : ∀ (k : Nat) (x : Nat × va_E), ws[k]? = some x → H1[x.1]? = H[x.1]? := fun k x hx => o1 x.1 (hz ▸ (hP k x hx).lt)
  exact kk H1 (hP.kept hk) (fun i q hq => hz ▸ (hP i q hq).lt) ⟨_, hc, (u_born ty hts hin hKn hkC e1 hty).to hfs⟩ ⟨Nat.le_trans hS.1 (by omega), fun x h1 h2 => (o1 x (hz ▸ Nat.lt_of_lt_of_le h1 hS.1)).trans (hS.2.1 x h1 h2), hS.2.2⟩ z1
theorem kr_anew {own C : String} {index N t : Nat} {z : Int32} (hx : p.tables.exec = Jvm.exec) (hb : c.code = cc) (hts : ∀ w ∈ TW, w.before args s = true) (hown : s.vm.findClass own = some m.cls) (hcl : Cond.classLink own index C ∈ TW) (hover : va_AO C s)
    (hP : va_P D kCl ws H) (hD : va_D (Ab (b + k)) ws) (hS : va_S (Ab (b + k)) s.heap H locs) (hkn : k ≤ n) (hz : H.size = b + n) (hRA : va_RA s (cA t) (.object C)) (h0 : ¬ z < 0) (hN : z.toNatClampNeg = N) (hby : N * 4 ≤ 536870912) (hcells : cells + 1 ≤ R.cells) (hslots : slots + N ≤ R.slots) (hdg : decode cc pc = .ok (.anewarray index, 3))
    (kk : ∀ (H : Heap), va_P D kCl (ws ++ [(b + n, .inl (cA t, N, .inr (.inr (.inr (.inr (fun _ => none))))))]) H → va_D (Ab (b + k)) (ws ++ [(b + n, .inl (cA t, N, .inr (.inr (.inr (.inr (fun _ => none))))))]) → va_S (Ab (b + k)) s.heap H locs → H.size = b + n + 1 → W p l e R s m args below meth c H locs (cells + 1) (slots + N) Q (F0 m (pc + 3) ls (.ref (b + n) :: rest))) : W p l e R s m args below meth c H locs cells slots Q (F0 m pc ls (.int z :: rest)) := by
  subst hN
  refine W.anew hx hb hown (hts _ hcl) (va_AO.use hover) rfl hdg rfl h0 hby hcells hslots fun cA' kA comp f1 f2 f3 f4 => ?_
  have hcc : cA' = cA t := by
    obtain ⟨kA2, comp2, g1, g2, g3, g4⟩ := hRA
    exact Option.some.inj (f1.symm.trans g4)
  subst hcc
  generalize hH1 : H.push ({ cls := cA t, slots := Array.replicate z.toNatClampNeg .null, vm := .none } : Cell) = H1
  have z1 : H1.size = b + n + 1 := by rw [← hH1, Array.size_push, hz]
  have e1 : H1[b + n]? = some (arrV (cA t) z.toNatClampNeg (fun _ => .null)) := by rw [← hz, ← hH1, Array.getElem?_push_size, ← arrV_new]
  have o1 : ∀ q : Nat, q < b + n → H1[q]? = H[q]? := fun q hq => by rw [← hH1, Array.getElem?_push, if_neg (by omega)]
  have hk : ∀ (k : Nat) (x : Nat × va_E), ws[k]? = some x → H1[x.1]? = H[x.1]? := fun k x hx => o1 x.1 (hz ▸ (hP k x hx).lt)
  rw [hz]
  refine kk H1 ((hP.kept hk).app (fun k x hx => ?_)) (hD.push hP hz.symm (by show b + k ≤ b + n; omega)) ⟨Nat.le_trans hS.1 (by omega), fun x h1 h2 => (o1 x (hz ▸ Nat.lt_of_lt_of_le h1 hS.1)).trans (hS.2.1 x h1 h2), hS.2.2⟩ z1
  have hz1 : k < 1 := (List.getElem?_eq_some_iff.mp hx).1
  rw [show k = 0 by omega] at hx
  cases hx
  show H1[b + n]? = some (vp_cell _ _)
  rw [vp_cell_q]
  exact e1
theorem wI_addr {is : List Nat} {i : Nat} {q : Nat × va_E} (h : (wI cA b ad is)[i]? = some q) : ∃ j, is[i]? = some j ∧ q.1 = b + j := by
  unfold wI at h
  rw [List.getElem?_map] at h
  cases hj : is[i]? with
  | none => rw [hj] at h; cases h
  | some j => rw [hj] at h; cases h; exact ⟨j, rfl, rfl⟩
theorem wI_D {sz : Nat} (hkn : k ≤ n) : va_D (Ab (b + k)) (wI cA b ad (List.range' n sz)) := by
  refine ⟨fun i j x y hi hj hxy => ?_, fun i q hq => ?_⟩
  · obtain ⟨a1, h1, h2⟩ := wI_addr hi
    obtain ⟨a2, h3, h4⟩ := wI_addr hj
    have l1 := (List.getElem?_eq_some_iff.mp h1).1
    have l2 := (List.getElem?_eq_some_iff.mp h3).1
    rw [List.length_range'] at l1 l2
    rw [List.getElem?_range' l1] at h1
    rw [List.getElem?_range' l2] at h3
    have := Option.some.inj h1
    have := Option.some.inj h3
    omega
  · obtain ⟨a1, h1, h2⟩ := wI_addr hq
    have l1 := (List.getElem?_eq_some_iff.mp h1).1
    rw [List.length_range'] at l1
    rw [List.getElem?_range' l1] at h1
    have := Option.some.inj h1
    show b + k ≤ q.1
    omega
theorem wI_ge {sz i : Nat} {q : Nat × va_E} (h : (wI cA b ad (List.range' n sz))[i]? = some q) : b + n ≤ q.1 := by
  obtain ⟨a1, h1, h2⟩ := wI_addr h
  have l1 := (List.getElem?_eq_some_iff.mp h1).1
  rw [List.length_range'] at l1
  rw [List.getElem?_range' l1] at h1
  have := Option.some.inj h1
  omega
theorem kr_call {sz mc ms : Nat} {st0 : List Value} {a : Array Value} (hr : va_Run p l e R s m args below meth c H locs cells slots mc ms (F0 m pc ls st0) rest (Kq D cA b ad n sz a) (Ab (b + n))) (hP : va_P D kCl ws H) (hlt : ∀ (i : Nat) (q : Nat × va_E), ws[i]? = some q → q.1 < b + n) (hD : va_D (Ab (b + k)) ws) (hS : va_S (Ab (b + k)) s.heap H locs) (hz : H.size = b + n + 1) (hkn : k ≤ n)
    (kk : ∀ (H : Heap) (locs : List Loc), va_P D kCl (ws ++ wI cA b ad (List.range' n sz)) H → va_D (Ab (b + k)) (ws ++ wI cA b ad (List.range' n sz)) → va_S (Ab (b + k)) s.heap H locs → H.size = b + n + sz → W p l e R s m args below meth c H locs (cells + mc) (slots + ms) Q (F0 m (pc + 3) ls rest)) : W p l e R s m args below meth c H locs cells slots Q (F0 m pc ls st0) := by
  intro T hT X
  obtain ⟨v', st₀, t, T', L, h0, X', hL, e1, e2, ⟨hv, hz1, hP1, hF1, hF2⟩, st⟩ := hr T hT X
  cases hv
  rw [h0] at hF1 hF2
  have hkeep : ∀ (i : Nat) (q : Nat × va_E), ws[i]? = some q → T'.heap[q.1]? = H[q.1]? := fun i q hq => by
    have := hlt i q hq
    rw [e1]
    exact hF2 q.1 (by omega) (fun h => by have h' : b + n ≤ q.1 := h; omega)
  obtain ⟨t2, a1, b1⟩ := kk T'.heap (locs ++ L) ((hP.kept hkeep).app (by rw [e1]; exact hP1)) (va_D.app hD (wI_D hkn) (fun i j x y hi hj => by have := hlt i x hi; have := wI_ge hj; omega))
    ⟨Nat.le_trans hS.1 (by rw [e1]; exact hF1), fun q g1 g2 => by
      rw [e1, hF2 q (Nat.lt_of_lt_of_le g1 hS.1) (fun h => g2 (by have h' : b + n ≤ q := h; show b + k ≤ q; omega))]
      exact hS.2.1 q g1 g2, fun q hq => by
      rcases List.mem_append.mp hq with h | h
      · exact hS.2.2 q h
      · have h' : b + n ≤ q.base := hL q h
        show b + k ≤ q.base
        omega⟩ (by rw [e1]; exact hz1) T' rfl X'
  exact ⟨t2, st t2 a1, b1⟩
theorem kr_ret {sz mc ms : Nat} (hQ : Q = MQ below (Kq D cA b ad n sz) args s mc ms (Ab (b + n))) (hx : p.tables.exec = Jvm.exec) (hb : c.code = cc) (hr : meth.sig.returnType = none) (hP : va_P D kCl (wI cA b ad (List.range' n sz)) H) (hS : va_S (Ab (b + n)) s.heap H locs) (hz : H.size = b + n + sz) (hc1 : cells ≤ mc) (hc2 : slots ≤ ms) (hlk : meth.locks = false) (hdg : decode cc pc = .ok (.return_, 1)) : W p l e R s m args below meth c H locs cells slots Q (F0 m pc ls []) := by
  subst hQ
  refine W.widen hc1 hc2 ?_
  exact W.vret hx hb hr (fun t ht _ => ⟨rfl, by rw [ht]; exact hz, by rw [ht]; exact hP, hS.F ht⟩) hS.2.2 hdg hlk
theorem Ct_ofK {y : MethodName} {maxL : Nat} {rm : Room} {as : List Value} {E : va_E} {sz mc ms : Nat} (hy : plainName y.cls = true) (hyn : y.name = "<init>") (hn : (lg_sl as).length ≤ maxL)
    (body : ∀ (p : Program) (e : Env) (R : Room) (s : State) (m : MethodId) (args : Array Value) (below : List Frame) (meth : Method) (c : Code) (ls : Array Slot) (Q : State → Prop) (H : Heap), R = rm → Q = MQ below (Kq D cA b ad n sz) args s mc ms (Ab (b + n)) → p.tables.exec = Jvm.exec → c.code = cc → (∀ w ∈ TW, w.before args s = true) → s.vm.findClass y.cls = some m.cls → c.maxLocals = maxL → meth.sig.returnType = none → meth.locks = false → meth.name = "<init>" → Cx D cA b ad s → Ca s → s.heap.size = b + n + 1 → va_P D kCl [(b + n, E)] H → va_D (Ab (b + n)) [(b + n, E)] → va_S (Ab (b + n)) s.heap H [] → H.size = b + n + 1 → lv_has ls maxL (lv_args 0 as) → W p l e R s m args below meth c H [] 0 0 Q (F0 m 0 ls [])) :
    Met l y (Cond.code y cc maxL none :: TW) rm (va_Pc as (Kp D cA b ad n E)) (Kq D cA b ad n sz) mc ms (Ab (b + n)) := by
  refine Met.ofW (cc := cc) (maxL := maxL) (ret := none) hy rfl ?_
  intro p e s m args below meth c s₁ B hml hv
  obtain ⟨rfl, hz, hB, hC, hA⟩ := hv
  have hts := atoms_spec (ws := Cond.code y cc maxL none :: TW) B.pre
  have hl := lv_entry as (n := maxL) hn
  rw [lg_entry_eq]
  refine body p e _ s m _ below meth c _ _ s.heap rfl rfl B.exec B.bytes (fun w hw => hts w (List.mem_cons_of_mem _ hw)) (findClass_of_methodNamed B.named) hml B.returns B.notSynchronized ((name_of_methodNamed B.named B.method).1.trans hyn) hC hA hz ?_ ?_ va_S.rf hz hl
  · intro i q hq
    have hz1 : i < 1 := (List.getElem?_eq_some_iff.mp hq).1
    rw [show i = 0 by omega] at hq
    cases hq
    exact hB
  · refine ⟨fun i j x y hi hj _ => ?_, fun i q hq => ?_⟩
    · have h1 : i < 1 := (List.getElem?_eq_some_iff.mp hi).1
      have h2 : j < 1 := (List.getElem?_eq_some_iff.mp hj).1
      omega
    · have hz1 : i < 1 := (List.getElem?_eq_some_iff.mp hq).1
      rw [show i = 0 by omega] at hq
      cases hq
      exact Nat.le_refl _
theorem lt_of_P (hP : va_P D kCl ws H) (hz : H.size = b + n) : ∀ (i : Nat) (q : Nat × va_E), ws[i]? = some q → q.1 < b + n := fun i q hq => hz ▸ (hP i q hq).lt
theorem i0_0 {k : Nat} (h2 : kd k ≠ 2) (h14 : kd k ≠ 14) (h22 : kd k ≠ 22) : i0 k = fun _ => 0 := by
  funext j
  unfold i0
  split <;> first | rfl | contradiction
theorem vS_up (h : va_S (Ab (b + k)) s.heap H locs) : va_S (Ab b) s.heap H locs := ⟨h.1, fun q h1 h2 => h.2.1 q h1 (fun h3 => h2 (ab_up h3)), fun q hq => ab_up (h.2.2 q hq)⟩
theorem wI_cat {X : va_W} {a a' m sz : Nat} (ha : a' = a + m) : (X ++ wI cA b ad (List.range' a m)) ++ wI cA b ad (List.range' a' sz) = X ++ wI cA b ad (List.range' a (m + sz)) := by
  subst ha
  rw [List.append_assoc]
  unfold wI
  rw [← List.map_append, ← List.range'_append_1]
theorem P_cat {X : va_W} {a a' m sz : Nat} (h : va_P D kCl ((X ++ wI cA b ad (List.range' a m)) ++ wI cA b ad (List.range' a' sz)) H) (ha : a' = a + m) : va_P D kCl (X ++ wI cA b ad (List.range' a (m + sz))) H := wI_cat ha ▸ h
theorem D_cat {A : Nat → Prop} {X : va_W} {a a' m sz : Nat} (h : va_D A ((X ++ wI cA b ad (List.range' a m)) ++ wI cA b ad (List.range' a' sz))) (ha : a' = a + m) : va_D A (X ++ wI cA b ad (List.range' a (m + sz))) := wI_cat ha ▸ h
theorem P_lt {X : va_W} {a m : Nat} (hm : 0 < m) (h : va_P D kCl (X ++ wI cA b ad (List.range' a m)) H) : b + (a + m) ≤ H.size := by
  have h1 : (X ++ wI cA b ad (List.range' a m))[X.length + (m - 1)]? = some (b + (a + (m - 1)), cS cA b ad Z0 (a + (m - 1))) := by
    rw [List.getElem?_append_right (by omega), Nat.add_sub_cancel_left]
    unfold wI
    rw [List.getElem?_map, List.getElem?_range' (by omega), Nat.one_mul]
    rfl
  have h2 := (h _ _ h1).lt
  have h3 : b + (a + (m - 1)) < H.size := h2
  omega
theorem pk {k j : Nat} (h : kd k = 7) (hj : j < 117) : kd (k + j) = kdL.getD (7 + j) 99 := by
  have h1 := kd_all (P := fun k => (!decide (kd k = 7)) || (List.range 117).all (fun j => decide (kd (k + j) = kdL.getD (7 + j) 99))) (by decide +kernel) h (by decide)
  simp only [h, decide_true, Bool.not_true, Bool.false_or] at h1
  exact of_decide_eq_true (List.all_eq_true.mp h1 j (List.mem_range.mpr hj))
theorem pl {k j : Nat} (h : kd k = 7) (hj : j < 117) : ln (k + j) = lnL.getD (7 + j) 0 := by
  have h1 := kd_all (P := fun k => (!decide (kd k = 7)) || (List.range 117).all (fun j => decide (ln (k + j) = lnL.getD (7 + j) 0))) (by decide +kernel) h (by decide)
  simp only [h, decide_true, Bool.not_true, Bool.false_or] at h1
  exact of_decide_eq_true (List.all_eq_true.mp h1 j (List.mem_range.mpr hj))
theorem az_1 {k : Nat} (h : kd k = 1) : cS cA b ad Z0 k = .inl (cA 2, 480, .inl (fun _ => 0)) := by
  show cS cA b ad (C0, M0, fun _ => 0) k = _
  rw [cS_c (kd_lt h (by decide))]
  simp only [cC, h]
  rw [show gI C0 k = fun _ => 0 from i0_0 (by rw [h]; decide) (by rw [h]; decide) (by rw [h]; decide)]
theorem az_4 {k : Nat} (h : kd k = 4) : cS cA b ad Z0 k = .inl (cA 2, 481, .inl (fun _ => 0)) := by
  show cS cA b ad (C0, M0, fun _ => 0) k = _
  rw [cS_c (kd_lt h (by decide))]
  simp only [cC, h]
  rw [show gI C0 k = fun _ => 0 from i0_0 (by rw [h]; decide) (by rw [h]; decide) (by rw [h]; decide)]
theorem az_5 {k : Nat} (h : kd k = 5) : cS cA b ad Z0 k = .inl (cA 0, 481, .inl (fun _ => 0)) := by
  show cS cA b ad (C0, M0, fun _ => 0) k = _
  rw [cS_c (kd_lt h (by decide))]
  simp only [cC, h]
  rw [show gI C0 k = fun _ => 0 from i0_0 (by rw [h]; decide) (by rw [h]; decide) (by rw [h]; decide)]
theorem az_6 {k : Nat} (h : kd k = 6) : cS cA b ad Z0 k = .inl (cA 1, 481, .inr (.inl (fun _ => 0))) := by
  show cS cA b ad (C0, M0, fun _ => 0) k = _
  rw [cS_c (kd_lt h (by decide))]
  simp only [cC, h]
  rfl
theorem az_9 {k : Nat} (h : kd k = 9) : cS cA b ad Z0 k = .inl (cA 1, ln k, .inr (.inl (fun _ => 0))) := by
  show cS cA b ad (C0, M0, fun _ => 0) k = _
  rw [cS_c (kd_lt h (by decide))]
  simp only [cC, h]
  rfl
theorem az_11 {k : Nat} (h : kd k = 11) : cS cA b ad Z0 k = .inl (cA 0, 4, .inl (fun _ => 0)) := by
  show cS cA b ad (C0, M0, fun _ => 0) k = _
  rw [cS_c (kd_lt h (by decide))]
  simp only [cC, h]
  rw [show gI C0 k = fun _ => 0 from i0_0 (by rw [h]; decide) (by rw [h]; decide) (by rw [h]; decide)]
theorem az_12 {k : Nat} (h : kd k = 12) : cS cA b ad Z0 k = .inl (cA 3, 3, .inl (fun _ => 0)) := by
  show cS cA b ad (C0, M0, fun _ => 0) k = _
  rw [cS_c (kd_lt h (by decide))]
  simp only [cC, h]
  rfl
theorem az_16 {k : Nat} (h : kd k = 16) : cS cA b ad Z0 k = .inl (cA 0, 4, .inl (fun _ => 0)) := by
  show cS cA b ad (C0, M0, fun _ => 0) k = _
  rw [cS_c (kd_lt h (by decide))]
  simp only [cC, h]
  rw [show gI C0 k = fun _ => 0 from i0_0 (by rw [h]; decide) (by rw [h]; decide) (by rw [h]; decide)]
theorem az_17 {k : Nat} (h : kd k = 17) : cS cA b ad Z0 k = .inl (cA 1, 6, .inr (.inl (fun _ => 0))) := by
  show cS cA b ad (C0, M0, fun _ => 0) k = _
  rw [cS_c (kd_lt h (by decide))]
  simp only [cC, h]
  rfl
theorem az_18 {k : Nat} (h : kd k = 18) : cS cA b ad Z0 k = .inl (cA 1, 10, .inr (.inl (fun _ => 0))) := by
  show cS cA b ad (C0, M0, fun _ => 0) k = _
  rw [cS_c (kd_lt h (by decide))]
  simp only [cC, h]
  rfl
theorem az_19 {k : Nat} (h : kd k = 19) : cS cA b ad Z0 k = .inl (cA 1, 10, .inr (.inl (fun _ => 0))) := by
  show cS cA b ad (C0, M0, fun _ => 0) k = _
  rw [cS_c (kd_lt h (by decide))]
  simp only [cC, h]
  rfl
theorem az_25 {k : Nat} (h : kd k = 25) : cS cA b ad Z0 k = .inl (cA 0, 5, .inl (fun _ => 0)) := by
  show cS cA b ad (C0, M0, fun _ => 0) k = _
  rw [cS_c (kd_lt h (by decide))]
  simp only [cC, h]
  rw [show gI C0 k = fun _ => 0 from i0_0 (by rw [h]; decide) (by rw [h]; decide) (by rw [h]; decide)]
theorem oz_8 {k : Nat} (h : kd k = 8) : cS cA b ad Z0 k = .inr (4, [.ref (b + (k + 1)), .int 0]) := by
  show cS cA b ad (C0, M0, fun _ => 0) k = _
  rw [cS_c (kd_lt h (by decide))]
  simp [cC, h, gI, gB, gR, C0, i0, r0, bI]
theorem oz_15 {k : Nat} (h : kd k = 15) : cS cA b ad Z0 k = .inr (6, [.int 0, .int 0, .int 0, .int 0, .int 0, .int 0]) := by
  show cS cA b ad (C0, M0, fun _ => 0) k = _
  rw [cS_c (kd_lt h (by decide))]
  simp [cC, h, gI, gB, gR, C0, i0, r0, bI]
theorem oz_14 {k : Nat} (h : kd k = 14) : cS cA b ad Z0 k = .inr (5, [.ref (ad 0), .int 0, .int (-1), .int 0, .ref (b + (k + 1)), .ref (b + (k + 2)), .int 0, .int 0, .int 0, .int 0, .ref (b + (k + 3)), .int (-1)]) := by
  show cS cA b ad (C0, M0, fun _ => 0) k = _
  rw [cS_c (kd_lt h (by decide))]
  simp [cC, h, gI, gB, gR, C0, i0, r0, bI]
theorem oz_22 {k : Nat} (h : kd k = 22) : cS cA b ad Z0 k = .inr (7, [.int 0, .int 0, .int 0, .int (-1), .int 0, .int 0, .int 0, .int 0]) := by
  show cS cA b ad (C0, M0, fun _ => 0) k = _
  rw [cS_c (kd_lt h (by decide))]
  simp [cC, h, gI, gB, gR, C0, i0, r0, bI]
theorem oz_7 {k : Nat} (h : kd k = 7) : cS cA b ad Z0 k = .inr (3, [.ref (b + (k + 1)), .ref (b + (k + 3)), .ref (b + (k + 5)), .ref (b + (k + 7)), .ref (b + (k + 9)), .ref (b + (k + 10)), .ref (b + (k + 11)), .ref (b + (k + 12)), .int 0]) := by
  show cS cA b ad (C0, M0, fun _ => 0) k = _
  rw [cS_c (kd_lt h (by decide))]
  simp [cC, h, gI, gB, gR, C0, i0, r0, bI]
end CTR
