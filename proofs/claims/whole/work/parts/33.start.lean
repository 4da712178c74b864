section STF
variable {s : State} {sb : Nat} {args : Array Value}
theorem ao_RA {C : String} (h : (Cond.arrayOver (.object C)).before args s = true) : ∃ c : ClassId, ArrOfT s c (.object C) ∧ va_RA s c (.object C) := by
  obtain ⟨comp, c, k, h1, h2, h3, h4, h5⟩ := Cond.arrayOver_spec h
  exact ⟨c, fun n z => ⟨fun q hq => by cases hq, k, h3, comp, h4⟩, k, comp, h3, h4, h1, h5⟩
theorem ac_RA {ty : FieldType} (h : (Cond.arrayClass ty).before args s = true) : ∃ c : ClassId, ArrOfT s c ty ∧ s.vm.findClass ("[" ++ ty.toString) = some c := by
  obtain ⟨c, k, comp, h1, h2, h3⟩ := Cond.arrayClass_spec h
  exact ⟨c, fun n z => ⟨fun q hq => by cases hq, k, h2, comp, h3⟩, h1⟩
theorem aa_RA (h : (Cond.arrayOver (.array .int)).before args s = true) : ∃ c : ClassId, ArrOfT s c (.array .int) ∧ va_RA s c (.array .int) := by
  obtain ⟨comp, c, k, h1, h2, h3, h4, h5⟩ := arrayOverA_spec h
  exact ⟨c, fun n z => ⟨fun q hq => by cases hq, k, h3, comp, h4⟩, h5⟩
theorem sf_K (hts : ∀ w ∈ TW, w.before args s = true) (hlt : ∀ w ∈ lw_tbl, w.before args s = true) : ∃ (D : va_G) (cA : Nat → ClassId), va_K D kCl (tyL cA) s := by
  have hk : ∀ q ∈ kCl, ∃ (cC : ClassId) (iS : Nat → Nat), u_Kn s q.1 q.2.1 q.2.2 cC iS := List.forall_mem_cons.mpr ⟨u_known (n := 10) hts in_c0 (hlt _ (by decide +kernel)), List.forall_mem_cons.mpr ⟨u_known (n := 6) hts in_c2 (hlt _ (by decide +kernel)), List.forall_mem_cons.mpr ⟨u_known (n := 5) hts in_c3 (hlt _ (by decide +kernel)), List.forall_mem_cons.mpr ⟨u_known (n := 9) hts in_c7 (hlt _ (by decide +kernel)), List.forall_mem_cons.mpr ⟨u_known (n := 2) hts in_c8 (hlt _ (by decide +kernel)), List.forall_mem_cons.mpr ⟨u_known (n := 12) hts in_c14 (hlt _ (by decide +kernel)), List.forall_mem_cons.mpr ⟨u_known (n := 6) hts in_c15 (hlt _ (by decide +kernel)), List.forall_mem_cons.mpr ⟨u_known (n := 8) hts in_c22 (hlt _ (by decide +kernel)), List.forall_mem_cons.mpr ⟨u_known (n := 5) hts in_c20 (hlt _ (by decide +kernel)), List.forall_mem_cons.mpr ⟨u_known (n := 2) hts in_c23 (hlt _ (by decide +kernel)), List.forall_mem_cons.mpr ⟨u_known (n := 48) hts in_m0 (hlt _ (by decide +kernel)), fun q hq => (List.not_mem_nil hq).elim⟩⟩⟩⟩⟩⟩⟩⟩⟩⟩⟩
  have hk2 : ∀ i : Nat, ∃ (x : ClassId × (Nat → Nat)), ∀ q, kCl[i]? = some q → u_Kn s q.1 q.2.1 q.2.2 x.1 x.2 := by
    intro i
    cases hi : kCl[i]? with
    | none => exact ⟨(0, fun _ => 0), fun q hq => by cases hq⟩
    | some q =>
      obtain ⟨cC, iS, h⟩ := hk q (List.mem_of_getElem? hi)
      exact ⟨(cC, iS), fun q' hq => by cases hq; exact h⟩
  obtain ⟨c0, a0, b0⟩ := ac_RA (ty := .int) (hlt _ (by decide +kernel))
  obtain ⟨c1, a1, b1⟩ := ac_RA (ty := .long) (hlt _ (by decide +kernel))
  obtain ⟨c2, a2, b2⟩ := ac_RA (ty := .char) (hlt _ (by decide +kernel))
  obtain ⟨c3, a3, b3⟩ := ac_RA (ty := .boolean) (hlt _ (by decide +kernel))
  obtain ⟨c4, a4, b4⟩ := ao_RA (C := "TypeGuard$Names") (hlt _ (by decide +kernel))
  obtain ⟨c5, a5, b5⟩ := ao_RA (C := "TypeGuard$Rule") (hlt _ (by decide +kernel))
  obtain ⟨c6, a6, b6⟩ := ao_RA (C := "TypeGuard$Entry") (hlt _ (by decide +kernel))
  obtain ⟨c7, a7, b7⟩ := aa_RA (hlt _ (by decide +kernel))
  refine ⟨(fun i => (Classical.choose (hk2 i)).1, fun i => (Classical.choose (hk2 i)).2), fun i => [c0, c1, c2, c3, c4, c5, c6, c7].getD i 0, fun c q hq => Classical.choose_spec (hk2 c) q hq, fun k q hq => ?_⟩
  have hall : ∀ q ∈ tyL (fun i => [c0, c1, c2, c3, c4, c5, c6, c7].getD i 0), ArrOfT s q.1 q.2 ∧ va_RA s q.1 q.2 := List.forall_mem_cons.mpr ⟨⟨a0, b0⟩, List.forall_mem_cons.mpr ⟨⟨a1, b1⟩, List.forall_mem_cons.mpr ⟨⟨a2, b2⟩, List.forall_mem_cons.mpr ⟨⟨a3, b3⟩, List.forall_mem_cons.mpr ⟨⟨a4, b4⟩, List.forall_mem_cons.mpr ⟨⟨a5, b5⟩, List.forall_mem_cons.mpr ⟨⟨a6, b6⟩, List.forall_mem_cons.mpr ⟨⟨a7, b7⟩, fun q hq => (List.not_mem_nil hq).elim⟩⟩⟩⟩⟩⟩⟩⟩
  exact hall q (List.mem_of_getElem? hq)
theorem sf_Ca (hlt : ∀ w ∈ lw_tbl, w.before args s = true) : Ca s := ⟨va_AO.of (hlt _ (by decide +kernel)), va_AO.of (hlt _ (by decide +kernel)), va_AO.of (hlt _ (by decide +kernel)), va_AA.of (hlt _ (by decide +kernel))⟩
theorem out_A : ∀ a : Nat, a < s.heap.size → ¬ Ab s.heap.size a := fun _ h h2 => absurd h (Nat.not_lt.mpr h2)
theorem sf_Cy (hlt : ∀ w ∈ lw_tbl, w.before args s = true) (hgv : ∀ w ∈ flatC (Jvm.Cond.and given_1 narrow_1), w.before args s = true) : Cy s.heap.size s := by
  refine ⟨fun w hw => ?_, Lz.of (hlt _ (by decide +kernel)) out_A, Lz.of (hlt _ (by decide +kernel)) out_A, va_Nc.of (hgv _ (by decide +kernel))⟩
  have hn := (List.mem_filter.mp hw).2
  have hb := hlt w (List.mem_filter.mp hw).1
  cases w <;> first | exact va_tabs rfl rfl hb | exact absurd hn Bool.false_ne_true
theorem m_ls : ∀ i, i < 15 → Cond.laysStatic "TypeGuard$Word" (wnL.getD i "") "LTypeGuard$Word;" ∈ lw_tbl := by decide +kernel
theorem m_ex : ∀ i, i < 15 → Cond.exactly (.static "TypeGuard$Word" (wnL.getD i "") "LTypeGuard$Word;") "TypeGuard$Word" ∈ flatC (Jvm.Cond.and given_1 narrow_1) := by decide +kernel
theorem m_or : ∀ i, i < 15 → Cond.eq (.field (.static "TypeGuard$Word" (wnL.getD i "") "LTypeGuard$Word;") "java/lang/Enum" "ordinal" "I") (.int (orL.getD i 0)) ∈ flatC (Jvm.Cond.and given_1 narrow_1) := by decide +kernel
theorem m_co : ∀ i, i < 15 → Cond.eq (.field (.static "TypeGuard$Word" (wnL.getD i "") "LTypeGuard$Word;") "TypeGuard$Word" "code" "J") (.long (wC i)) ∈ flatC (Jvm.Cond.and given_1 narrow_1) := by decide +kernel
theorem m_ne : ∀ i, i < 15 → ∀ j, j < 15 → i ≠ j → (Cond.not (.eq (.static "TypeGuard$Word" (wnL.getD i "") "LTypeGuard$Word;") (.static "TypeGuard$Word" (wnL.getD j "") "LTypeGuard$Word;")) ∈ flatC (Jvm.Cond.and given_1 narrow_1)) ∨ (Cond.not (.eq (.static "TypeGuard$Word" (wnL.getD j "") "LTypeGuard$Word;") (.static "TypeGuard$Word" (wnL.getD i "") "LTypeGuard$Word;")) ∈ flatC (Jvm.Cond.and given_1 narrow_1)) := by decide +kernel
theorem m_al : ∀ i, i < 15 → Cond.eq (.elem (.static "TypeGuard$Word" "ALL" "[LTypeGuard$Word;") (.int (Int32.ofNat i))) (.static "TypeGuard$Word" (wnL.getD i "") "LTypeGuard$Word;") ∈ flatC (Jvm.Cond.and given_1 narrow_1) := by decide +kernel
theorem m_sw : ∀ i, i < 15 → Cond.eq (.elem (.static "TypeGuard$1" "$SwitchMap$TypeGuard$Word" "[I") (.int (Int32.ofNat i))) (.int (swL.getD i 0)) ∈ flatC (Jvm.Cond.and given_1 narrow_1) := by decide +kernel
theorem m_by : ∀ j, j < 8 → Cond.eq (.elem (.field (.string "TypeGuard$Tokens" 65) "java/lang/String" "value" "[B") (.int (Int32.ofNat j))) (.int (([123, 125, 58, 59, 44, 126, 42, 45] : List Int32).getD j 0)) ∈ flatC (Jvm.Cond.and given_1 narrow_1) := by decide +kernel
theorem sf_S (hlt : ∀ w ∈ lw_tbl, w.before args s = true) (hgv : ∀ w ∈ flatC (Jvm.Cond.and given_1 narrow_1), w.before args s = true) : ∃ ad : Nat → Nat, (∀ i j, i < 15 → j < 15 → ad i = ad j → i = j) ∧ Sx s.heap.size ad s s.heap ∧ vk_R "TypeGuard$Tokens" 65 "{}:;,~*-" (ad 17) s := by
  obtain ⟨a0, hEn, hev⟩ := va_Enof2 (args := args) (s := s) (E := "TypeGuard$Word") (d := "LTypeGuard$Word;") (nm := wnL) (F := [("java/lang/Enum", "ordinal", "I", orL)]) (A := Ab s.heap.size) (fun i hi => hlt _ (m_ls i hi)) (hlt _ (by decide +kernel)) (fun i hi => hgv _ (m_ex i hi)) (fun q hq i hi => by rw [List.mem_singleton.mp hq]; exact hgv _ (m_or i hi)) (fun i j hi hj hij => (m_ne i hi j hj hij).imp (hgv _) (hgv _)) out_A
  have hev : ∀ i, i < 15 → (Term.static "TypeGuard$Word" (wnL.getD i "") "LTypeGuard$Word;").eval args s none [] s = some (.ref (a0 i)) := hev
  obtain ⟨t15, e15, h15⟩ := va_Tof (args := args) (s := s) (tm := .static "TypeGuard$Word" "ALL" "[LTypeGuard$Word;") (ty := .object "TypeGuard$Word") (N := 15) (f := fun i => .ref (a0 i)) (A := Ab s.heap.size) (by decide) (hgv _ (by decide +kernel)) (va_eqv (u := .int 15) (hgv _ (by decide +kernel)) rfl) (fun j hj => va_eqv (hgv _ (m_al j hj)) (hev j hj)) out_A
  obtain ⟨t16, e16, h16⟩ := va_Tof (args := args) (s := s) (tm := .static "TypeGuard$1" "$SwitchMap$TypeGuard$Word" "[I") (ty := .int) (N := 15) (f := fun i => .int (swL.getD i 0)) (A := Ab s.heap.size) (by decide) (hgv _ (by decide +kernel)) (va_eqv (u := .int 15) (hgv _ (by decide +kernel)) rfl) (fun j hj => va_eqv (u := .int (swL.getD j 0)) (hgv _ (m_sw j hj)) rfl) out_A
  have hEf := va_Efof (args := args) (s := s) (N := 15) (E := "TypeGuard$Word") (d0 := "LTypeGuard$Word;") (o := "TypeGuard$Word") (n := "code") (d := "J") (nm := wnL) (v := fun i => .long (wC i)) (tm := fun i => .long (wC i)) (ad := a0) (A := Ab s.heap.size) hev (fun i hi => hgv _ (m_co i hi)) (fun i hi => rfl) out_A
  obtain ⟨aK, aV, hSt, hsv⟩ := vk_Sof (args := args) (s := s) (N := 1) (tm := fun _ => .string "TypeGuard$Tokens" 65) (len := [8]) (byt := [[123, 125, 58, 59, 44, 126, 42, 45]]) (A := Ab s.heap.size) (fun i hi => by rw [show i = 0 by omega]; decide) (fun i hi => hgv _ (by decide +kernel)) (fun i hi => hgv _ (by decide +kernel)) (fun i hi => hgv _ (by decide +kernel)) (fun i hi => by rw [show i = 0 by omega]; exact hgv _ (by decide +kernel)) (fun i hi j hj => by
    rw [show i = 0 by omega] at hj ⊢
    exact hgv _ (m_by j hj)) (fun i j hi hj hij => by omega) out_A
  have z15 := va_Zof (A := Ab s.heap.size) (hlt (.laysStatic "TypeGuard$Word" "ALL" "[LTypeGuard$Word;") (by decide +kernel)) (hlt (.initialized "TypeGuard$Word") (by decide +kernel)) e15 out_A
  have z16 := va_Zof (A := Ab s.heap.size) (hlt (.laysStatic "TypeGuard$1" "$SwitchMap$TypeGuard$Word" "[I") (by decide +kernel)) (hlt (.initialized "TypeGuard$1") (by decide +kernel)) e16 out_A
  have zq1 := va_Zqof (A := Ab s.heap.size) (hlt (.laysStatic "java/lang/Throwable" "UNASSIGNED_STACK" "[Ljava/lang/StackTraceElement;") (by decide +kernel)) (hlt (.initialized "java/lang/Throwable") (by decide +kernel)) (hgv _ (by decide +kernel)) out_A
  have zq2 := va_Zqof (A := Ab s.heap.size) (hlt (.laysStatic "java/lang/Throwable" "SUPPRESSED_SENTINEL" "Ljava/util/List;") (by decide +kernel)) (hlt (.initialized "java/lang/Throwable") (by decide +kernel)) (hgv _ (by decide +kernel)) out_A
  have zc := va_Zof (A := Ab s.heap.size) (v := .int 1) (hlt (.laysStatic "java/lang/String" "COMPACT_STRINGS" "Z") (by decide +kernel)) (hlt (.initialized "java/lang/String") (by decide +kernel)) (va_eqv (u := .int 1) (hgv _ (by decide +kernel)) rfl) out_A
  have had : ∃ ad : Nat → Nat, (∀ i, i < 15 → ad i = a0 i) ∧ ad 15 = t15 ∧ ad 16 = t16 ∧ ad 17 = aK 0 ∧ ad 18 = aV 0 := ⟨fun i => if i < 15 then a0 i else if i = 15 then t15 else if i = 16 then t16 else if i = 17 then aK 0 else aV 0, fun i hi => if_pos hi, rfl, rfl, rfl, rfl⟩
  obtain ⟨ad, d0, d15, d16, d17, d18⟩ := had
  refine ⟨ad, fun i j hi hj h => ?_, ⟨⟨fun i hi => ?_, fun i j hi hj h => ?_⟩, fun i hi => ?_, ?_, ?_, ?_, ?_, zq1, zq2, zc, ?_⟩, vk_R.of (hlt _ (by decide +kernel)) ?_⟩
  · rw [d0 i hi, d0 j hj] at h
    exact hEn.2 i j hi hj h
  · have hi' : i < 15 := hi
    rw [d0 i hi']
    exact hEn.1 i hi
  · have hi' : i < 15 := hi
    have hj' : j < 15 := hj
    rw [d0 i hi', d0 j hj'] at h
    exact hEn.2 i j hi hj h
  · rw [d0 i hi]
    exact hEf i hi
  · rw [d15]
    exact z15
  · rw [d15]
    obtain ⟨cell, q1, q2, q3, q4, q5, q6, q7⟩ := h15
    exact ⟨cell, q1, q2, q3, q4, q5, fun j hj => by rw [d0 j hj]; exact q6 j hj, q7⟩
  · rw [d16]
    exact z16
  · rw [d16]
    exact h16
  · rw [d17, d18]
    exact ⟨fun i hi => by rw [show i = 0 by omega]; exact hSt.1 0 (by omega), fun i j hi hj _ => by omega⟩
  · rw [d17]
    exact hsv 0 (by omega)
theorem sf_Cx (hlt : ∀ w ∈ lw_tbl, w.before args s = true) (hgv : ∀ w ∈ flatC (Jvm.Cond.and given_1 narrow_1), w.before args s = true) : ∃ (D : va_G) (cA : Nat → ClassId) (ad : Nat → Nat), Cx D cA s.heap.size ad s := by
  have hts : ∀ w ∈ TW, w.before args s = true := fun w hw => hlt w (List.mem_filter.mp hw).1
  obtain ⟨D, cA, hK⟩ := sf_K hts hlt
  obtain ⟨ad, h1, h2, h3⟩ := sf_S hlt hgv
  refine ⟨D, cA, ad, hK, fun w hw => ?_, h1, h2, h3⟩
  have hn := (List.mem_filter.mp hw).2
  have hb := hlt w (List.mem_filter.mp hw).1
  cases w <;> first | exact va_Nw.of rfl hb | exact absurd hn Bool.false_ne_true
end STF
