def R_law : String := "TypeGuardLaw"
def lw_P (b : Addr) (xs : List Int32) (args : Array Value) (s : State) : Prop := args = #[.ref b] ∧ s.IntsAt b xs ∧ xs.length ≤ 5 ∧ (Jvm.Cond.and given_1 narrow_1).before args s = true
def lw_Q (_ : Array Value) (s : State) (o : Outcome) (t : State) : Prop := o = .returned (some (.int 1)) ∧ Framed s o t [] 600002 7302232
def lw_Z (below : List Frame) (a : Array Value) (s : State) : State → Prop := fun t => ∃ o, t.status = .running ∧ Ended t below o ∧ lw_Q a s o t
/-- the law's own end, with 1 on the stack, nothing written that was there before, its room as the claim has it -/
theorem lw_ret {p : Program} {l : Launch} {e : Env} {s : State} {m : MethodId} {below : List Frame} {meth : Method} {c : Code} {b : Nat} (hx : p.tables.exec = Jvm.exec) (hb : c.code = code) (hr : meth.sig.returnType = ret) (hlocks : meth.locks = false) {pc : Nat} {H : Heap} {ls : Array Slot} (hdg : decode code pc = .ok (.ireturn, 1)) : W p l e room_1 s m #[Value.ref b] below meth c H [] 600002 7302232 (lw_Z below #[Value.ref b] s) (F0 m pc ls [.int 1]) := by
  intro T hT X
  obtain ⟨fs, hret, hrun, hended, hW, hframe⟩ := X.leave (v := some (.int 1)) (hlocks := hlocks) (fun h => by rw [hr] at h; cases h)
  have hmeth' : T.vm.method? m = some meth := X.method'
  refine ⟨T.setFrames fs, ?_, .returned (some (.int 1)), hrun, hended, rfl, ⟨_, rfl⟩, hW, hframe⟩
  jvm_step X.here [X.here.top, hx, hb, hdg, hmeth', hr, ret, narrow_b1]
  (try refine ⟨rfl, ?_⟩); (try refine ⟨rfl, ?_⟩)
  first | (intro acts; rw [hret _ acts rfl rfl rfl]) | rw [hret _ _ rfl rfl rfl]
  exact Steps.refl _
/-- what holds at the law's entry: the machine, the code, the tables' words (any of lw_tbl by 'hts w (by decide +kernel)'), the script of L ints xs at the cell b, what the Statement gives of the start (any of its parts by flat_of_before) -/
def lw_At (p : Program) (s : State) (m : MethodId) (meth : Method) (c : Code) (b L : Nat) (xs : Nat → Int32) : Prop :=
  p.tables.exec = Jvm.exec ∧ c.code = code ∧ meth.sig.returnType = ret ∧ c.maxLocals = 7 ∧ s.vm.findClass R_law = some m.cls ∧ (∀ w ∈ lw_tbl, w.before #[Value.ref b] s = true) ∧ va_X b L xs s s.heap ∧ b < s.heap.size ∧ meth.locks = false ∧ (Jvm.Cond.and given_1 narrow_1).before #[Value.ref b] s = true
def stp (op a1 a2 a3 a4 : Int32) (Z : ST) : Option ST := (if op &&& 15 = 0 then st_0 a1 a2 a3 a4 Z else (if op &&& 15 = 1 then st_1 a1 a2 a3 a4 Z else (if op &&& 15 = 2 then st_2 a1 a2 a3 a4 Z else (if op &&& 15 = 3 then st_3 a1 a2 a3 a4 Z else (if op &&& 15 = 4 then st_4 a1 a2 a3 a4 Z else (if op &&& 15 = 5 then st_5 a1 a2 a3 a4 Z else (if op &&& 15 = 6 then st_6 a1 a2 a3 a4 Z else (if op &&& 15 = 7 then st_7 a1 a2 a3 a4 Z else (if op &&& 15 = 8 then st_8 a1 a2 a3 a4 Z else (if op &&& 15 = 9 then st_9 a1 a2 a3 a4 Z else (if op &&& 15 = 10 then st_10 a1 a2 a3 a4 Z else (if op &&& 15 = 11 then st_11 a1 a2 a3 a4 Z else (if op &&& 15 = 12 then st_12 a1 a2 a3 a4 Z else (if op &&& 15 = 13 then st_13 a1 a2 a3 a4 Z else (if op &&& 15 = 14 then st_14 a1 a2 a3 a4 Z else some Z)))))))))))))))
def Good : Nat → ST → Prop
  | 0, _ => True
  | n + 1, Z => ∀ op a1 a2 a3 a4 : Int32, ∃ Z2, stp op a1 a2 a3 a4 Z = some Z2 ∧ Good n Z2
theorem lp_cmp {L j : Nat} (hL : L ≤ 2560) (hj : 5 * j ≤ 2560) : (Int32.ofNat L - 5 < nI (5 * j)) ↔ L < 5 * j + 5 := by
  by_cases h5 : 5 ≤ L
  · obtain ⟨k, rfl⟩ := Nat.exists_eq_add_of_le h5
    have e1 : Int32.ofNat (5 + k) - 5 = nI k := by
      show nI (5 + k) - 5 = nI k
      rw [Nat.add_comm, ← nI_add]
      exact Int32.add_sub_cancel _ _
    rw [e1, nI_ltI (by omega) (by omega)]
    omega
  · have hlt : Int32.ofNat L - 5 < 0 := by
      have : L = 0 ∨ L = 1 ∨ L = 2 ∨ L = 3 ∨ L = 4 := by omega
      rcases this with rfl | rfl | rfl | rfl | rfl <;> decide
    have h0 : (0 : Int32) ≤ nI (5 * j) := nI_pos' (by omega)
    exact ⟨fun _ => by omega, fun _ => Int32.lt_of_lt_of_le hlt h0⟩
theorem lp_in {L j k : Nat} {z : Int32} (hz : z = nI k) (hL : L ≤ 2560) (hj : 5 * j + 5 ≤ L) (hk : k < 5) : inbd (nI (5 * j) + z) L = true ∧ txN (nI (5 * j) + z) = 5 * j + k := by
  subst hz
  rw [nI_add]
  have hc : txN (nI (5 * j + k)) = 5 * j + k := nI_clamp (by omega)
  refine ⟨?_, hc⟩
  unfold inbd
  rw [Bool.and_eq_true, Bool.not_eq_true', decide_eq_false_iff_not, decide_eq_true_eq]
  refine ⟨nI_pos (by omega), ?_⟩
  show txN (nI (5 * j + k)) < L
  rw [hc]
  omega
set_option maxHeartbeats 4000000 in
set_option maxRecDepth 100000 in
theorem lw_loop {p : Program} {l : Launch} {e : Env} {s : State} {m : MethodId} {below : List Frame} {meth : Method} {c : Code} {D : va_G} {cA : Nat → ClassId} {b : Nat} {ad : Nat → Nat} {sb L : Nat} {xs : Nat → Int32} (hT : ∀ e, l.admits e → e.platform.stackTraces = false) (hx : p.tables.exec = Jvm.exec) (hb : c.code = code) (hr : meth.sig.returnType = ret) (hlk : meth.locks = false) (hts : ∀ w ∈ TW, w.before #[Value.ref sb] s = true) (hown : s.vm.findClass "TypeGuardLaw" = some m.cls) (hml : c.maxLocals = 7) (hC : Cx D cA b ad s) (hY : Cy b s) (hSc : va_X sb L xs s s.heap) (hsb : sb < s.heap.size) (hsA : ¬ Ab b sb) (hbs : s.heap.size ≤ b) (hL : L ≤ 2560) : ∀ (n j : Nat) (Z : ST) (H : Heap) (locs : List Loc) (ls : Array Slot) (cells slots : Nat), j + n = L / 5 → Good n Z → cells + n ≤ 600002 → slots + 6 * n ≤ 7302232 → hp D cA b ad Z H → va_S (Ab b) s.heap H locs → lv_has ls 7 [(0, .ref sb), (1, .ref (b + 0)), (2, .ref (b + 262)), (3, .ref (b + 293)), (4, .int (nI (5 * j)))] → W p l e room_1 s m #[Value.ref sb] below meth c H locs cells slots (lw_Z below #[Value.ref sb] s) (F0 m 23 ls []) := by
  intro n
  induction n with
  | zero =>
    intro j Z H locs ls cells slots hj hG hc1 hc2 hX hS hl
    refine lv_iload hx hb d_w_law_23 (lv_at hl 4 rfl) ?_
    refine lv_aload_n hx hb d_w_law_25 rfl (lv_at hl 0 rfl) ?_
    refine va_slen hx hb hSc hsb hsA hS d_w_law_26 ?_
    refine lv_iconst (v := 5) hx hb d_w_law_27 (by decide) ?_
    refine lv_isub hx hb d_w_law_28 ?_
    refine lv_icmp_gt hx hb d_w_law_29 (tgt := 998) (by decide) (fun hc => ?_) (fun hc => ?_)
    · refine lv_iconst (v := 1) hx hb d_w_law_998 (by decide) ?_
      refine W.widen (k := 600002) (n := 7302232) (by omega) (by omega) ?_
      have h9 := W.forget (L := locs) (fun q hq => Nat.le_trans hbs (hS.2.2 q hq)) (lw_ret (p := p) (l := l) (e := e) (s := s) (m := m) (below := below) (b := sb) hx hb hr hlk (H := H) (ls := ls) d_w_law_999)
      exact h9
    · exact absurd ((lp_cmp hL (by omega)).mpr (by omega)) hc
  | succ n ih =>
    intro j Z H locs ls cells slots hj hG hc1 hc2 hX hS hl
    have hj5 : 5 * j + 5 ≤ L := by omega
    refine lv_iload hx hb d_w_law_23 (lv_at hl 4 rfl) ?_
    refine lv_aload_n hx hb d_w_law_25 rfl (lv_at hl 0 rfl) ?_
    refine va_slen hx hb hSc hsb hsA hS d_w_law_26 ?_
    refine lv_iconst (v := 5) hx hb d_w_law_27 (by decide) ?_
    refine lv_isub hx hb d_w_law_28 ?_
    refine lv_icmp_gt hx hb d_w_law_29 (tgt := 998) (by decide) (fun hc => ?_) (fun hc => ?_)
    · exact absurd ((lp_cmp hL (by omega)).mp hc) (by omega)
    obtain ⟨i0, t0⟩ := lp_in (k := 0) (z := 0) rfl hL hj5 (by decide)
    obtain ⟨i1, t1⟩ := lp_in (k := 1) (z := 1) rfl hL hj5 (by decide)
    obtain ⟨i2, t2⟩ := lp_in (k := 2) (z := 2) rfl hL hj5 (by decide)
    obtain ⟨i3, t3⟩ := lp_in (k := 3) (z := 3) rfl hL hj5 (by decide)
    obtain ⟨i4, t4⟩ := lp_in (k := 4) (z := 4) rfl hL hj5 (by decide)
    rw [Int32.add_zero] at i0 t0
    refine lv_aload_n hx hb d_w_law_32 rfl (lv_at hl 0 rfl) ?_
    refine lv_iload hx hb d_w_law_33 (lv_at hl 4 rfl) ?_
    refine va_sld hx hb hSc hsb hsA hS (inbd_in i0) d_w_law_35 ?_
    refine lv_bipush (v := 15) hx hb d_w_law_36 (by decide) ?_
    refine lv_iand hx hb d_w_law_38 ?_
    obtain ⟨Z2, hst, hG2⟩ := hG (xs (txN (nI (5 * j)))) (xs (txN (nI (5 * j) + 1))) (xs (txN (nI (5 * j) + 2))) (xs (txN (nI (5 * j) + 3))) (xs (txN (nI (5 * j) + 4)))
    have kk : ∀ (H : Heap) (locs : List Loc) (ls : Array Slot) (cn sn : Nat), cn ≤ cells + 1 → sn ≤ slots + 6 → hp D cA b ad Z2 H → va_S (Ab b) s.heap H locs → lv_has ls 7 [(0, .ref sb), (1, .ref (b + 0)), (2, .ref (b + 262)), (3, .ref (b + 293)), (4, .int (nI (5 * j)))] → W p l e room_1 s m #[Value.ref sb] below meth c H locs cn sn (lw_Z below #[Value.ref sb] s) (F0 m 992 ls []) := by
      intro H locs ls cn sn h1 h2 hX hS hl
      refine lv_iinc (v := nI (5 * j) + 5) (lv' := [(4, .int (nI (5 * j) + 5)), (0, .ref sb), (1, .ref (b + 0)), (2, .ref (b + 262)), (3, .ref (b + 293))]) hx hb d_w_law_992 hl (k := 4) rfl rfl (by decide) rfl (fun ls hl => ?_)
      refine lv_goto hx hb d_w_law_995 (tgt := 23) (by decide) ?_
      have e5 : nI (5 * j) + 5 = nI (5 * (j + 1)) := nI_add (5 * j) 5
      rw [e5] at hl
      exact ih (j + 1) Z2 H locs ls cn sn (by omega) hG2 (by omega) (by omega) hX hS (lv_sub hl [1, 2, 3, 4, 0] rfl)
    have hcs : cells + 1 ≤ room_1.cells ∧ slots + 6 ≤ room_1.slots := ⟨by show cells + 1 ≤ 600002; omega, by show slots + 6 ≤ 7302232; omega⟩
    generalize hop : xs (txN (nI (5 * j))) = op at hst
    unfold stp at hst
    by_cases c0 : op &&& 15 = 0
    · rw [if_pos c0] at hst
      refine tb_in (k := 0) hx hb d_w_law_39 c0 (off := 73) (by decide) (by decide) (by decide) (tgt := 112) (by decide) ?_
      exact L_0 hT rfl hx hb hts hown hml hC hY hSc hsb hsA i1 i2 i3 i4 rfl rfl rfl rfl hX hS hl hcs kk hst
    rw [if_neg c0] at hst
    by_cases c1 : op &&& 15 = 1
    · rw [if_pos c1] at hst
      refine tb_in (k := 1) hx hb d_w_law_39 c1 (off := 142) (by decide) (by decide) (by decide) (tgt := 181) (by decide) ?_
      exact L_1 hT rfl hx hb hts hown hml hC hY hSc hsb hsA i1 i2 i3 i4 rfl rfl rfl rfl hX hS hl hcs kk hst
    rw [if_neg c1] at hst
    by_cases c2 : op &&& 15 = 2
    · rw [if_pos c2] at hst
      refine tb_in (k := 2) hx hb d_w_law_39 c2 (off := 186) (by decide) (by decide) (by decide) (tgt := 225) (by decide) ?_
      exact L_2 hT rfl hx hb hts hown hml hC hY hSc hsb hsA i1 i2 i3 i4 rfl rfl rfl rfl hX hS hl hcs kk hst
    rw [if_neg c2] at hst
    by_cases c3 : op &&& 15 = 3
    · rw [if_pos c3] at hst
      refine tb_in (k := 3) hx hb d_w_law_39 c3 (off := 211) (by decide) (by decide) (by decide) (tgt := 250) (by decide) ?_
      exact L_3 hT rfl hx hb hts hown hml hC hY hSc hsb hsA i1 i2 i3 i4 rfl rfl rfl rfl hX hS hl hcs kk hst
    rw [if_neg c3] at hst
    by_cases c4 : op &&& 15 = 4
    · rw [if_pos c4] at hst
      refine tb_in (k := 4) hx hb d_w_law_39 c4 (off := 236) (by decide) (by decide) (by decide) (tgt := 275) (by decide) ?_
      exact L_4 hT rfl hx hb hts hown hml hC hY hSc hsb hsA i1 i2 i3 i4 rfl rfl rfl rfl hX hS hl hcs kk hst
    rw [if_neg c4] at hst
    by_cases c5 : op &&& 15 = 5
    · rw [if_pos c5] at hst
      refine tb_in (k := 5) hx hb d_w_law_39 c5 (off := 327) (by decide) (by decide) (by decide) (tgt := 366) (by decide) ?_
      exact L_5 hT rfl hx hb hts hown hml hC hY hSc hsb hsA i1 i2 i3 i4 rfl rfl rfl rfl hX hS hl hcs kk hst
    rw [if_neg c5] at hst
    by_cases c6 : op &&& 15 = 6
    · rw [if_pos c6] at hst
      refine tb_in (k := 6) hx hb d_w_law_39 c6 (off := 419) (by decide) (by decide) (by decide) (tgt := 458) (by decide) ?_
      exact L_6 hT rfl hx hb hts hown hml hC hY hSc hsb hsA i1 i2 i3 i4 rfl rfl rfl rfl hX hS hl hcs kk hst
    rw [if_neg c6] at hst
    by_cases c7 : op &&& 15 = 7
    · rw [if_pos c7] at hst
      refine tb_in (k := 7) hx hb d_w_law_39 c7 (off := 511) (by decide) (by decide) (by decide) (tgt := 550) (by decide) ?_
      exact L_7 hT rfl hx hb hts hown hml hC hY hSc hsb hsA i1 i2 i3 i4 rfl rfl rfl rfl hX hS hl hcs kk hst
    rw [if_neg c7] at hst
    by_cases c8 : op &&& 15 = 8
    · rw [if_pos c8] at hst
      refine tb_in (k := 8) hx hb d_w_law_39 c8 (off := 559) (by decide) (by decide) (by decide) (tgt := 598) (by decide) ?_
      exact L_8 hT rfl hx hb hts hown hml hC hY hSc hsb hsA i1 i2 i3 i4 rfl rfl rfl rfl hX hS hl hcs kk hst
    rw [if_neg c8] at hst
    by_cases c9 : op &&& 15 = 9
    · rw [if_pos c9] at hst
      refine tb_in (k := 9) hx hb d_w_law_39 c9 (off := 619) (by decide) (by decide) (by decide) (tgt := 658) (by decide) ?_
      exact L_9 hT rfl hx hb hts hown hml hC hY hSc hsb hsA i1 i2 i3 i4 rfl rfl rfl rfl hX hS hl hcs kk hst
    rw [if_neg c9] at hst
    by_cases c10 : op &&& 15 = 10
    · rw [if_pos c10] at hst
      refine tb_in (k := 10) hx hb d_w_law_39 c10 (off := 656) (by decide) (by decide) (by decide) (tgt := 695) (by decide) ?_
      exact L_10 hT rfl hx hb hts hown hml hC hY hSc hsb hsA i1 i2 i3 i4 rfl rfl rfl rfl hX hS hl hcs kk hst
    rw [if_neg c10] at hst
    by_cases c11 : op &&& 15 = 11
    · rw [if_pos c11] at hst
      refine tb_in (k := 11) hx hb d_w_law_39 c11 (off := 743) (by decide) (by decide) (by decide) (tgt := 782) (by decide) ?_
      exact L_11 hT rfl hx hb hts hown hml hC hY hSc hsb hsA i1 i2 i3 i4 rfl rfl rfl rfl hX hS hl hcs kk hst
    rw [if_neg c11] at hst
    by_cases c12 : op &&& 15 = 12
    · rw [if_pos c12] at hst
      refine tb_in (k := 12) hx hb d_w_law_39 c12 (off := 811) (by decide) (by decide) (by decide) (tgt := 850) (by decide) ?_
      exact L_12 hT rfl hx hb hts hown hml hC hY hSc hsb hsA i1 i2 i3 i4 rfl rfl rfl rfl hX hS hl hcs kk hst
    rw [if_neg c12] at hst
    by_cases c13 : op &&& 15 = 13
    · rw [if_pos c13] at hst
      refine tb_in (k := 13) hx hb d_w_law_39 c13 (off := 891) (by decide) (by decide) (by decide) (tgt := 930) (by decide) ?_
      exact L_13 hT rfl hx hb hts hown hml hC hY hSc hsb hsA i1 i2 i3 i4 rfl rfl rfl rfl hX hS hl hcs kk hst
    rw [if_neg c13] at hst
    by_cases c14 : op &&& 15 = 14
    · rw [if_pos c14] at hst
      refine tb_in (k := 14) hx hb d_w_law_39 c14 (off := 916) (by decide) (by decide) (by decide) (tgt := 955) (by decide) ?_
      exact L_14 hT rfl hx hb hts hown hml hC hY hSc hsb hsA i1 i2 i3 i4 rfl rfl rfl rfl hX hS hl hcs kk hst
    rw [if_neg c14] at hst
    obtain rfl := Option.some.inj hst
    refine tb_out hx hb d_w_law_39 (by have n0 := ni_ne (a := 0) (by decide) c0; have n1 := ni_ne (a := 1) (by decide) c1; have n2 := ni_ne (a := 2) (by decide) c2; have n3 := ni_ne (a := 3) (by decide) c3; have n4 := ni_ne (a := 4) (by decide) c4; have n5 := ni_ne (a := 5) (by decide) c5; have n6 := ni_ne (a := 6) (by decide) c6; have n7 := ni_ne (a := 7) (by decide) c7; have n8 := ni_ne (a := 8) (by decide) c8; have n9 := ni_ne (a := 9) (by decide) c9; have n10 := ni_ne (a := 10) (by decide) c10; have n11 := ni_ne (a := 11) (by decide) c11; have n12 := ni_ne (a := 12) (by decide) c12; have n13 := ni_ne (a := 13) (by decide) c13; have n14 := ni_ne (a := 14) (by decide) c14; omega) (tgt := 992) (by decide) ?_
    exact kk H locs ls cells slots (by omega) (by omega) hX hS hl
