section GEN
variable {p : Program} {l : Launch} {e : Env} {R : Room} {s : State} {m : MethodId} {args : Array Value} {below : List Frame} {meth : Method} {c : Code} {H : Heap} {locs : List Loc} {cells slots : Nat} {Q : State → Prop}
variable {cc : ByteArray} {pc : Nat} {ls : Array Slot} {rest : List Value} {D : va_G} {cA : Nat → ClassId} {b : Nat} {ad : Nat → Nat}
theorem lt_I {x a : Int32} (h : a = x) (k : W p l e R s m args below meth c H locs cells slots Q (F0 m pc ls (.int a :: rest))) : W p l e R s m args below meth c H locs cells slots Q (F0 m pc ls (.int x :: rest)) := h ▸ k
theorem lt_J {x a : Int64} (h : a = x) (k : W p l e R s m args below meth c H locs cells slots Q (F0 m pc ls (.long a :: rest))) : W p l e R s m args below meth c H locs cells slots Q (F0 m pc ls (.long x :: rest)) := h ▸ k
theorem lt_Z {x a : Bool} (h : a = x) (k : W p l e R s m args below meth c H locs cells slots Q (F0 m pc ls (.int (bI a) :: rest))) : W p l e R s m args below meth c H locs cells slots Q (F0 m pc ls (.int (bI x) :: rest)) := h ▸ k
theorem lt_R {x a : Nat} (h : a = x) (k : W p l e R s m args below meth c H locs cells slots Q (F0 m pc ls (.ref (b + a) :: rest))) : W p l e R s m args below meth c H locs cells slots Q (F0 m pc ls (.ref (b + x) :: rest)) := h ▸ k
theorem lt_W {x a : Nat} (h : a = x) (k : W p l e R s m args below meth c H locs cells slots Q (F0 m pc ls (.ref (ad a) :: rest))) : W p l e R s m args below meth c H locs cells slots Q (F0 m pc ls (.ref (ad x) :: rest)) := h ▸ k
theorem lz_ifeq (hx : p.tables.exec = Jvm.exec) (hb : c.code = cc) {x : Bool} {off : Int} {tgt : Nat} (hdg : decode cc pc = .ok (.ifCond .eq off, 3)) (ht : (pc : Int) + off = (tgt : Int)) (kt : ¬ x = true → W p l e R s m args below meth c H locs cells slots Q (F0 m tgt ls rest)) (kf : x = true → W p l e R s m args below meth c H locs cells slots Q (F0 m (pc + 3) ls rest)) : W p l e R s m args below meth c H locs cells slots Q (F0 m pc ls (.int (bI x) :: rest)) :=
  lv_if_eq hx hb hdg ht (fun h => kt (bI_0 h)) (fun h => kf (bI_1 h))
theorem lz_ifne (hx : p.tables.exec = Jvm.exec) (hb : c.code = cc) {x : Bool} {off : Int} {tgt : Nat} (hdg : decode cc pc = .ok (.ifCond .ne off, 3)) (ht : (pc : Int) + off = (tgt : Int)) (kt : x = true → W p l e R s m args below meth c H locs cells slots Q (F0 m tgt ls rest)) (kf : ¬ x = true → W p l e R s m args below meth c H locs cells slots Q (F0 m (pc + 3) ls rest)) : W p l e R s m args below meth c H locs cells slots Q (F0 m pc ls (.int (bI x) :: rest)) :=
  lv_if_ne hx hb hdg ht (fun h => kt (bI_1 h)) (fun h => kf (bI_0 h))
theorem lc_0 {x y : Int64} : lg_cmp x y = 0 ↔ x = y := by
  unfold lg_cmp
  by_cases h : x = y
  · subst h
    have h0 : ¬ x > x := fun q => by have := Int64.lt_iff_toInt_lt.mp q; omega
    rw [if_neg h0, if_pos rfl]
    simp
  · by_cases h1 : x > y
    · rw [if_pos h1]
      constructor
      · intro q; exact absurd q (by decide)
      · intro q; exact absurd q h
    · rw [if_neg h1, if_neg h]
      constructor
      · intro q; exact absurd q (by decide)
      · intro q; exact absurd q h
theorem lx_ifne (hx : p.tables.exec = Jvm.exec) (hb : c.code = cc) {x y : Int64} {off : Int} {tgt : Nat} (hd1 : decode cc pc = .ok (.lcmp, 1)) (hd2 : decode cc (pc + 1) = .ok (.ifCond .ne off, 3)) (ht : ((pc + 1 : Nat) : Int) + off = (tgt : Int)) (kt : ¬ x = y → W p l e R s m args below meth c H locs cells slots Q (F0 m tgt ls rest)) (kf : x = y → W p l e R s m args below meth c H locs cells slots Q (F0 m (pc + 1 + 3) ls rest)) : W p l e R s m args below meth c H locs cells slots Q (F0 m pc ls (.long y :: .long x :: rest)) :=
  W.lcmp hx hb hd1 (lv_if_ne hx hb hd2 ht (fun h => kt (fun q => h (lc_0.mpr q))) (fun h => kf (lc_0.mp h)))
theorem lx_ifeq (hx : p.tables.exec = Jvm.exec) (hb : c.code = cc) {x y : Int64} {off : Int} {tgt : Nat} (hd1 : decode cc pc = .ok (.lcmp, 1)) (hd2 : decode cc (pc + 1) = .ok (.ifCond .eq off, 3)) (ht : ((pc + 1 : Nat) : Int) + off = (tgt : Int)) (kt : x = y → W p l e R s m args below meth c H locs cells slots Q (F0 m tgt ls rest)) (kf : ¬ x = y → W p l e R s m args below meth c H locs cells slots Q (F0 m (pc + 1 + 3) ls rest)) : W p l e R s m args below meth c H locs cells slots Q (F0 m pc ls (.long y :: .long x :: rest)) :=
  W.lcmp hx hb hd1 (lv_if_eq hx hb hd2 ht (fun h => kt (lc_0.mp h)) (fun h => kf (fun q => h (lc_0.mpr q))))
theorem lw_acmpeq (hx : p.tables.exec = Jvm.exec) (hb : c.code = cc) (hi : ∀ i j, i < 15 → j < 15 → ad i = ad j → i = j) {x y : Nat} (h1 : x < 15) (h2 : y < 15) {off : Int} {tgt : Nat} (hdg : decode cc pc = .ok (.if_acmp .eq off, 3)) (ht : (pc : Int) + off = (tgt : Int)) (kt : x = y → W p l e R s m args below meth c H locs cells slots Q (F0 m tgt ls rest)) (kf : ¬ x = y → W p l e R s m args below meth c H locs cells slots Q (F0 m (pc + 3) ls rest)) : W p l e R s m args below meth c H locs cells slots Q (F0 m pc ls (.ref (ad y) :: .ref (ad x) :: rest)) :=
  lv_acmp_eq (rx := some (ad x)) (ry := some (ad y)) hx hb hdg ht (fun h => kt (hi x y h1 h2 (Option.some.inj h))) (fun h => kf (fun q => h (by rw [q])))
theorem lw_acmpne (hx : p.tables.exec = Jvm.exec) (hb : c.code = cc) (hi : ∀ i j, i < 15 → j < 15 → ad i = ad j → i = j) {x y : Nat} (h1 : x < 15) (h2 : y < 15) {off : Int} {tgt : Nat} (hdg : decode cc pc = .ok (.if_acmp .ne off, 3)) (ht : (pc : Int) + off = (tgt : Int)) (kt : ¬ x = y → W p l e R s m args below meth c H locs cells slots Q (F0 m tgt ls rest)) (kf : x = y → W p l e R s m args below meth c H locs cells slots Q (F0 m (pc + 3) ls rest)) : W p l e R s m args below meth c H locs cells slots Q (F0 m pc ls (.ref (ad y) :: .ref (ad x) :: rest)) :=
  lv_acmp_ne (rx := some (ad x)) (ry := some (ad y)) hx hb hdg ht (fun h => kt (fun q => h (by rw [q]))) (fun h => kf (hi x y h1 h2 (Option.some.inj h)))
theorem ni_ne {x k : Int32} {a : Int} (hk : k.toInt = a) (h : ¬ x = k) : x.toInt ≠ a := fun q => h (Int32.toInt_inj.mp (q.trans hk.symm))
theorem tb_in (hx : p.tables.exec = Jvm.exec) (hb : c.code = cc) {dflt lo hi : Int} {offs : Array Int} {len : Nat} {x k : Int32} {off : Int} {tgt : Nat} (hdg : decode cc pc = .ok (.tableswitch dflt lo hi offs, len)) (hv : x = k) (h1 : ¬ k.toInt < lo) (h2 : ¬ hi < k.toInt) (ho : offs[(k.toInt - lo).toNat]? = some off) (ht : (pc : Int) + off = (tgt : Int)) (kk : W p l e R s m args below meth c H locs cells slots Q (F0 m tgt ls rest)) : W p l e R s m args below meth c H locs cells slots Q (F0 m pc ls (.int x :: rest)) := by
  subst hv
  exact lv_tableIn hx hb hdg h1 h2 ho ht kk
theorem tb_out (hx : p.tables.exec = Jvm.exec) (hb : c.code = cc) {dflt lo hi : Int} {offs : Array Int} {len : Nat} {x : Int32} {tgt : Nat} (hdg : decode cc pc = .ok (.tableswitch dflt lo hi offs, len)) (h : x.toInt < lo ∨ hi < x.toInt) (ht : (pc : Int) + dflt = (tgt : Int)) (kk : W p l e R s m args below meth c H locs cells slots Q (F0 m tgt ls rest)) : W p l e R s m args below meth c H locs cells slots Q (F0 m pc ls (.int x :: rest)) := lv_tableOut hx hb hdg h ht kk
theorem lk_in (hx : p.tables.exec = Jvm.exec) (hb : c.code = cc) {dflt : Int} {ps : Array (Int × Int)} {len : Nat} {x k : Int32} {off : Int} {tgt : Nat} (hdg : decode cc pc = .ok (.lookupswitch dflt ps, len)) (hv : x = k) (hp : (ps.toList.zip (ps.toList.drop 1)).all (fun (a, next) => a.1 < next.1) = true) (ho : Op.lookupswitch.offset ps.toList dflt k.toInt = off) (ht : (pc : Int) + off = (tgt : Int)) (kk : W p l e R s m args below meth c H locs cells slots Q (F0 m tgt ls rest)) : W p l e R s m args below meth c H locs cells slots Q (F0 m pc ls (.int x :: rest)) := by
  subst hv
  exact lv_lookup hx hb hdg hp ho ht kk
theorem lk_out (hx : p.tables.exec = Jvm.exec) (hb : c.code = cc) {dflt : Int} {ps : Array (Int × Int)} {len : Nat} {x : Int32} {off : Int} {tgt : Nat} (hdg : decode cc pc = .ok (.lookupswitch dflt ps, len)) (hp : (ps.toList.zip (ps.toList.drop 1)).all (fun (a, next) => a.1 < next.1) = true) (ho : Op.lookupswitch.offset ps.toList dflt x.toInt = off) (ht : (pc : Int) + off = (tgt : Int)) (kk : W p l e R s m args below meth c H locs cells slots Q (F0 m tgt ls rest)) : W p l e R s m args below meth c H locs cells slots Q (F0 m pc ls (.int x :: rest)) := lv_lookup hx hb hdg hp ho ht kk
end GEN
section RET
variable {p : Program} {l : Launch} {e : Env} {R : Room} {s : State} {m : MethodId} {args : Array Value} {below : List Frame} {meth : Method} {c : Code} {H : Heap} {locs : List Loc} {cells slots : Nat} {Q : State → Prop}
variable {cc : ByteArray} {pc : Nat} {ls : Array Slot} {rest : List Value} {D : va_G} {cA : Nat → ClassId} {b : Nat} {ad : Nat → Nat}
def Qr (D : va_G) (cA : Nat → ClassId) (b : Nat) (ad : Nat → Nat) (S : ST) (v : Option Value) : Array Value → State → Outcome → State → Prop := fun _ st o t => o = .returned v ∧ hp D cA b ad S t.heap ∧ va_F (Ab b) st t
def Rp (D : va_G) (cA : Nat → ClassId) (b : Nat) (ad : Nat → Nat) (S : ST) (U : State) : Prop := hp D cA b ad S U.heap ∧ Cx D cA b ad U
theorem rt_i {S : ST} {v : Int32} (hQ : Q = MQ below (Qr D cA b ad S (some (.int v))) args s cells slots (Ab b)) (hx : p.tables.exec = Jvm.exec) (hb : c.code = cc) (hr : meth.sig.returnType = some .int) (hX : hp D cA b ad S H) (hS : va_S (Ab b) s.heap H locs) (hlk : meth.locks = false) (hdg : decode cc pc = .ok (.ireturn, 1)) : W p l e R s m args below meth c H locs cells slots Q (F0 m pc ls [.int v]) := by
  subst hQ
  exact W.iret hx hb hr (fun t ht _ => ⟨rfl, by rw [ht]; exact hX, hS.F ht⟩) hS.2.2 hdg hlk
theorem rt_l {S : ST} {v : Int64} (hQ : Q = MQ below (Qr D cA b ad S (some (.long v))) args s cells slots (Ab b)) (hx : p.tables.exec = Jvm.exec) (hb : c.code = cc) (hr : meth.sig.returnType = some .long) (hX : hp D cA b ad S H) (hS : va_S (Ab b) s.heap H locs) (hlk : meth.locks = false) (hdg : decode cc pc = .ok (.lreturn, 1)) : W p l e R s m args below meth c H locs cells slots Q (F0 m pc ls [.long v]) := by
  subst hQ
  exact W.lret hx hb hr (fun t ht _ => ⟨rfl, by rw [ht]; exact hX, hS.F ht⟩) hS.2.2 hdg hlk
theorem rt_v {S : ST} (hQ : Q = MQ below (Qr D cA b ad S none) args s cells slots (Ab b)) (hx : p.tables.exec = Jvm.exec) (hb : c.code = cc) (hr : meth.sig.returnType = none) (hX : hp D cA b ad S H) (hS : va_S (Ab b) s.heap H locs) (hlk : meth.locks = false) (hdg : decode cc pc = .ok (.return_, 1)) : W p l e R s m args below meth c H locs cells slots Q (F0 m pc ls []) := by
  subst hQ
  exact W.vret hx hb hr (fun t ht _ => ⟨rfl, by rw [ht]; exact hX, hS.F ht⟩) hS.2.2 hdg hlk
theorem rt_z {S : ST} {v : Bool} (hQ : Q = MQ below (Qr D cA b ad S (some (.int (bI v)))) args s cells slots (Ab b)) (hx : p.tables.exec = Jvm.exec) (hb : c.code = cc) (hr : meth.sig.returnType = some .boolean) (hX : hp D cA b ad S H) (hS : va_S (Ab b) s.heap H locs) (hlk : meth.locks = false) (hdg : decode cc pc = .ok (.ireturn, 1)) : W p l e R s m args below meth c H locs cells slots Q (F0 m pc ls [.int (bI v)]) := by
  subst hQ
  exact W.zret hx hb hr (bI_nar v) (fun t ht _ => ⟨rfl, by rw [ht]; exact hX, hS.F ht⟩) hS.2.2 hdg hlk
theorem rt_zf {S : ST} (hQ : Q = MQ below (Qr D cA b ad S (some (.int (bI false)))) args s cells slots (Ab b)) (hx : p.tables.exec = Jvm.exec) (hb : c.code = cc) (hr : meth.sig.returnType = some .boolean) (hX : hp D cA b ad S H) (hS : va_S (Ab b) s.heap H locs) (hlk : meth.locks = false) (hdg : decode cc pc = .ok (.ireturn, 1)) : W p l e R s m args below meth c H locs cells slots Q (F0 m pc ls [.int 0]) := rt_z (v := false) hQ hx hb hr hX hS hlk hdg
theorem rt_zt {S : ST} (hQ : Q = MQ below (Qr D cA b ad S (some (.int (bI true)))) args s cells slots (Ab b)) (hx : p.tables.exec = Jvm.exec) (hb : c.code = cc) (hr : meth.sig.returnType = some .boolean) (hX : hp D cA b ad S H) (hS : va_S (Ab b) s.heap H locs) (hlk : meth.locks = false) (hdg : decode cc pc = .ok (.ireturn, 1)) : W p l e R s m args below meth c H locs cells slots Q (F0 m pc ls [.int 1]) := rt_z (v := true) hQ hx hb hr hX hS hlk hdg
theorem rt_c {S : ST} {v : Int32} (hQ : Q = MQ below (Qr D cA b ad S (some (.int v))) args s cells slots (Ab b)) (hx : p.tables.exec = Jvm.exec) (hb : c.code = cc) (hr : meth.sig.returnType = some .char) (hv : iC v = v) (hX : hp D cA b ad S H) (hS : va_S (Ab b) s.heap H locs) (hlk : meth.locks = false) (hdg : decode cc pc = .ok (.ireturn, 1)) : W p l e R s m args below meth c H locs cells slots Q (F0 m pc ls [.int v]) := by
  subst hQ
  exact W.zret hx hb hr (iC_nar hv) (fun t ht _ => ⟨rfl, by rw [ht]; exact hX, hS.F ht⟩) hS.2.2 hdg hlk
theorem rt_r {S : ST} {v : Nat} {n : String} (hQ : Q = MQ below (Qr D cA b ad S (some (.ref (b + v)))) args s cells slots (Ab b)) (hx : p.tables.exec = Jvm.exec) (hb : c.code = cc) (hr : meth.sig.returnType = some (.object n)) (hX : hp D cA b ad S H) (hS : va_S (Ab b) s.heap H locs) (hlk : meth.locks = false) (hdg : decode cc pc = .ok (.areturn, 1)) : W p l e R s m args below meth c H locs cells slots Q (F0 m pc ls [.ref (b + v)]) := by
  subst hQ
  exact W.aret hx hb hr (Or.inl ⟨n, rfl⟩) (Or.inr ⟨_, rfl⟩) (fun t ht _ => ⟨rfl, by rw [ht]; exact hX, hS.F ht⟩) hS.2.2 hdg hlk
theorem rt_w {S : ST} {v : Nat} {n : String} (hQ : Q = MQ below (Qr D cA b ad S (some (.ref (ad v)))) args s cells slots (Ab b)) (hx : p.tables.exec = Jvm.exec) (hb : c.code = cc) (hr : meth.sig.returnType = some (.object n)) (hX : hp D cA b ad S H) (hS : va_S (Ab b) s.heap H locs) (hlk : meth.locks = false) (hdg : decode cc pc = .ok (.areturn, 1)) : W p l e R s m args below meth c H locs cells slots Q (F0 m pc ls [.ref (ad v)]) := by
  subst hQ
  exact W.aret hx hb hr (Or.inl ⟨n, rfl⟩) (Or.inr ⟨_, rfl⟩) (fun t ht _ => ⟨rfl, by rw [ht]; exact hX, hS.F ht⟩) hS.2.2 hdg hlk
/-- a method's contract out of the walk of its body -/
theorem Ct_of {y : MethodName} {maxL : Nat} {ret : Option FieldType} {rm : Room} {as : List Value} {S : ST} {Qc : Array Value → State → Outcome → State → Prop} (hy : plainName y.cls = true) (hn : (lg_sl as).length ≤ maxL)
    (body : ∀ (p : Program) (e : Env) (R : Room) (s : State) (m : MethodId) (args : Array Value) (below : List Frame) (meth : Method) (c : Code) (ls : Array Slot) (Q : State → Prop) (H : Heap) (locs : List Loc), R = rm → Q = MQ below Qc args s 0 0 (Ab b) → p.tables.exec = Jvm.exec → c.code = cc → (∀ w ∈ TW, w.before args s = true) → s.vm.findClass y.cls = some m.cls → c.maxLocals = maxL → meth.sig.returnType = ret → meth.locks = false → Cx D cA b ad s → hp D cA b ad S H → va_S (Ab b) s.heap H locs → lv_has ls maxL (lv_args 0 as) → W p l e R s m args below meth c H locs 0 0 Q (F0 m 0 ls [])) :
    Met l y (Cond.code y cc maxL ret :: TW) rm (va_Pc as (Rp D cA b ad S)) Qc 0 0 (Ab b) := by
  refine Met.ofW (cc := cc) (maxL := maxL) (ret := ret) hy rfl ?_
  intro p e s m args below meth c s₁ B hml hv
  obtain ⟨rfl, hX, hC⟩ := hv
  have hts := atoms_spec (ws := Cond.code y cc maxL ret :: TW) B.pre
  have hl := lv_entry as (n := maxL) hn
  rw [lg_entry_eq]
  exact body p e _ s m _ below meth c _ _ s.heap [] rfl rfl B.exec B.bytes (fun w hw => hts w (List.mem_cons_of_mem _ hw)) (findClass_of_methodNamed B.named) hml B.returns B.notSynchronized hC hX va_S.rf hl
theorem Rp_blind {as : List Value} {S : ST} : FrameBlind (va_Pc as (Rp D cA b ad S)) := fun a U g mk h => ⟨h.1, h.2.1, Cx_to h.2.2 (State.WarmedH.refl U) (fun _ _ _ => rfl)⟩
theorem Rp_pre {as : List Value} {S : ST} (hC : Cx D cA b ad s) (hX : hp D cA b ad S H) (hS : va_S (Ab b) s.heap H locs) : ∀ U : State, U.heap = H → s.WarmedH U.vm → va_Pc as (Rp D cA b ad S) as.toArray U := by
  intro U hU hW
  subst hU
  exact ⟨rfl, hX, Cx_to hC hW hS.2.1⟩
theorem ck_go {S' : ST} {v : Option Value} {st0 st1 : List Value} {a : Array Value} (hr : va_Run p l e R s m args below meth c H locs 0 0 0 0 (F0 m pc ls st0) rest (Qr D cA b ad S' v a) (Ab b)) (hS : va_S (Ab b) s.heap H locs) (h1 : v.toList ++ rest = st1)
    (kk : ∀ (H : Heap) (locs : List Loc), hp D cA b ad S' H → va_S (Ab b) s.heap H locs → W p l e R s m args below meth c H locs 0 0 Q (F0 m (pc + 3) ls st1)) : W p l e R s m args below meth c H locs 0 0 Q (F0 m pc ls st0) := by
  intro T hT X
  obtain ⟨v', st₀, t, T', L, h0, X', hL, e1, e2, ⟨hv, hX1, hz, hk⟩, st⟩ := hr T hT X
  cases hv
  subst h1
  rw [h0] at hz hk
  obtain ⟨t2, a1, b1⟩ := kk T'.heap (locs ++ L) (by rw [e1]; exact hX1)
    ⟨Nat.le_trans hS.1 (by rw [e1]; exact hz), fun q h1 h2 => by rw [e1, hk q (Nat.lt_of_lt_of_le h1 hS.1) h2]; exact hS.2.1 q h1 h2, fun q hq => by
      rcases List.mem_append.mp hq with h | h
      · exact hS.2.2 q h
      · exact hL q h⟩ T' rfl X'
  exact ⟨t2, st t2 a1, b1⟩
end RET
section CALL
variable {p : Program} {l : Launch} {e : Env} {R : Room} {s : State} {m : MethodId} {args : Array Value} {below : List Frame} {meth : Method} {c : Code} {H : Heap} {locs : List Loc} {Q : State → Prop}
variable {cc : ByteArray} {pc : Nat} {ls : Array Slot} {D : va_G} {cA : Nat → ClassId} {b : Nat} {ad : Nat → Nat}
theorem good_TW {y : MethodName} {bytes : ByteArray} {maxL : Nat} {ret : Option FieldType} (h : Cond.code y bytes maxL ret ∈ TW) : GoodIn TW (Cond.code y bytes maxL ret :: TW) := by
  intro w hw
  have hm : w ∈ TW := by
    rcases List.mem_cons.mp hw with h1 | h1
    · rw [h1]; exact h
    · exact h1
  exact ⟨hm, good_of_word (List.mem_filter.mp hm).2⟩
theorem ck_V {own : String} {y : MethodName} {bytes : ByteArray} {maxL n index nL : Nat} {ret : Option FieldType} {rm : Room} {S S' : ST} {v : Option Value} {As rest st0 st1 : List Value} {a : Nat}
    (hM : Met l y (Cond.code y bytes maxL ret :: TW) rm (va_Pc (.ref a :: As) (Rp D cA b ad S)) (Qr D cA b ad S' v) 0 0 (Ab b))
    (hl : Cond.methodLink own index y ∈ TW) (hin : Cond.instanceMethod y ∈ TW) (hse : Cond.selects y.cls y y ∈ TW) (hco : Cond.code y bytes maxL ret ∈ TW) (hini : Cond.initialized y.cls ∈ TW)
    (hx : p.tables.exec = Jvm.exec) (hb : c.code = cc) (hts : ∀ w ∈ TW, w.before args s = true) (hown : s.vm.findClass own = some m.cls) (hC : Cx D cA b ad s) (hX : hp D cA b ad S H) (hS : va_S (Ab b) s.heap H locs)
    (hrc : ∃ cell : Cell, H[a]? = some cell ∧ cell.vm.isStatics = false ∧ s.vm.findClass y.cls = some cell.cls) (hml : c.maxLocals = nL) (hsz : ls.size = nL) (hR : rm.frames + 1 ≤ R.frames ∧ 8 + (maxL + 11) + rm.locals ≤ R.locals) (hz : rm.cells = 0 ∧ rm.slots = 0)
    (hd : y.cls ≠ "java/lang/invoke/MethodHandle" ∧ y.cls ≠ "java/lang/invoke/VarHandle" ∧ (parseMethodDescriptor y.desc).map (fun d => d.parameters.length) = some n) (hn : As.length = n)
    (hst : st0 = As.reverse ++ .ref a :: rest) (h1 : v.toList ++ rest = st1) (hroom : 2 * (F0 m pc ls st0).monitorRoom + (rest.map fun v => v.category).sum ≤ 8) (hdg : decode cc pc = .ok (.invokevirtual index, 3))
    (kk : ∀ (H : Heap) (locs : List Loc), hp D cA b ad S' H → va_S (Ab b) s.heap H locs → W p l e R s m args below meth c H locs 0 0 Q (F0 m (pc + 3) ls st1)) : W p l e R s m args below meth c H locs 0 0 Q (F0 m pc ls st0) :=
  ck_go (va_runV (C := y.cls) (n := n) ⟨hx, hb, hml, hown, hts⟩ hM ⟨callB_of n hts (good_TW hco) rfl hz.1 hz.2 (hts _ hini) (hts _ hl) hd hR, hts _ hin, hts _ hse⟩ ⟨Rp_blind, hrc, Rp_pre hC hX hS⟩ rfl hn hsz hst hroom hdg ⟨Nat.zero_le _, Nat.zero_le _⟩) hS h1 kk
theorem ck_S {own : String} {y : MethodName} {bytes : ByteArray} {maxL n index nL : Nat} {ret : Option FieldType} {rm : Room} {S S' : ST} {v : Option Value} {As rest st0 st1 : List Value}
    (hM : Met l y (Cond.code y bytes maxL ret :: TW) rm (va_Pc As (Rp D cA b ad S)) (Qr D cA b ad S' v) 0 0 (Ab b))
    (hl : Cond.methodLink own index y ∈ TW) (hstt : Cond.static y ∈ TW) (hco : Cond.code y bytes maxL ret ∈ TW) (hini : Cond.initialized y.cls ∈ TW)
    (hx : p.tables.exec = Jvm.exec) (hb : c.code = cc) (hts : ∀ w ∈ TW, w.before args s = true) (hown : s.vm.findClass own = some m.cls) (hC : Cx D cA b ad s) (hX : hp D cA b ad S H) (hS : va_S (Ab b) s.heap H locs)
    (hml : c.maxLocals = nL) (hsz : ls.size = nL) (hR : rm.frames + 1 ≤ R.frames ∧ 8 + (maxL + 11) + rm.locals ≤ R.locals) (hz : rm.cells = 0 ∧ rm.slots = 0)
    (hd : y.cls ≠ "java/lang/invoke/MethodHandle" ∧ y.cls ≠ "java/lang/invoke/VarHandle" ∧ (parseMethodDescriptor y.desc).map (fun d => d.parameters.length) = some n) (hn : As.length = n)
    (hst : st0 = As.reverse ++ rest) (h1 : v.toList ++ rest = st1) (hroom : 2 * (F0 m pc ls st0).monitorRoom + (rest.map fun v => v.category).sum ≤ 8) (hdg : decode cc pc = .ok (.invokestatic index, 3))
    (kk : ∀ (H : Heap) (locs : List Loc), hp D cA b ad S' H → va_S (Ab b) s.heap H locs → W p l e R s m args below meth c H locs 0 0 Q (F0 m (pc + 3) ls st1)) : W p l e R s m args below meth c H locs 0 0 Q (F0 m pc ls st0) :=
  ck_go (va_runS (n := n) ⟨hx, hb, hml, hown, hts⟩ hM ⟨callB_of n hts (good_TW hco) rfl hz.1 hz.2 (hts _ hini) (hts _ hl) hd hR, hts _ hstt⟩ ⟨Rp_blind, Rp_pre hC hX hS⟩ rfl hn hsz hst hroom hdg ⟨Nat.zero_le _, Nat.zero_le _⟩) hS h1 kk
theorem ck_SN {own host : String} {y : MethodName} {bytes : ByteArray} {maxL n index nL : Nat} {ret : Option FieldType} {rm : Room} {S S' : ST} {v : Option Value} {As rest st0 st1 : List Value}
    (hM : Met l y (Cond.code y bytes maxL ret :: TW) rm (va_Pc As (Rp D cA b ad S)) (Qr D cA b ad S' v) 0 0 (Ab b))
    (hl : va_Nw (.methodLinkNest own index y host) s) (hstt : Cond.static y ∈ TW) (hco : Cond.code y bytes maxL ret ∈ TW) (hini : Cond.initialized y.cls ∈ TW)
    (hx : p.tables.exec = Jvm.exec) (hb : c.code = cc) (hts : ∀ w ∈ TW, w.before args s = true) (hown : s.vm.findClass own = some m.cls) (hC : Cx D cA b ad s) (hX : hp D cA b ad S H) (hS : va_S (Ab b) s.heap H locs)
    (hml : c.maxLocals = nL) (hsz : ls.size = nL) (hR : rm.frames + 1 ≤ R.frames ∧ 8 + (maxL + 11) + rm.locals ≤ R.locals) (hz : rm.cells = 0 ∧ rm.slots = 0)
    (hd : y.cls ≠ "java/lang/invoke/MethodHandle" ∧ y.cls ≠ "java/lang/invoke/VarHandle" ∧ (parseMethodDescriptor y.desc).map (fun d => d.parameters.length) = some n) (hn : As.length = n)
    (hst : st0 = As.reverse ++ rest) (h1 : v.toList ++ rest = st1) (hroom : 2 * (F0 m pc ls st0).monitorRoom + (rest.map fun v => v.category).sum ≤ 8) (hdg : decode cc pc = .ok (.invokestatic index, 3))
    (kk : ∀ (H : Heap) (locs : List Loc), hp D cA b ad S' H → va_S (Ab b) s.heap H locs → W p l e R s m args below meth c H locs 0 0 Q (F0 m (pc + 3) ls st1)) : W p l e R s m args below meth c H locs 0 0 Q (F0 m pc ls st0) :=
  ck_go (va_runSN (n := n) ⟨hx, hb, hml, hown, hts⟩ hM ⟨va_cnB n hts (good_TW hco) rfl hz.1 hz.2 hl (hts _ hini) hd hR, hts _ hstt, trivial⟩ ⟨Rp_blind, Rp_pre hC hX hS⟩ rfl hn hsz hst hroom hdg ⟨Nat.zero_le _, Nat.zero_le _⟩) hS h1 kk
end CALL
