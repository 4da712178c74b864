section SET2
variable {E : EnvR} {P : Nat → Nat} {S S' S0 : CS} {M M' M'' : MS} {i : Nat} {X Y : CS → MS → Prop}
abbrev XS (X : CS → MS → Prop) (q s : Nat) : CS → MS → Prop := fun S M => X S M ∧ SetR S M q s
theorem rs125 (h : ¬ gI M 0 7 = 0) : m_readSet_J125 M = some M := by
  unfold m_readSet_J125
  rw [mu_b h, Option.bind_some]
theorem rs62 {v : Int32} {fst : Bool} {f : Nat} (hf : 0 < f) (h : ¬ gI M 0 7 = 0) : m_readSet_L62 v f fst M = some M := by
  obtain ⟨f, rfl⟩ := Nat.exists_eq_add_of_lt hf
  rw [Nat.zero_add, m_readSet_L62, if_neg h, rs125 h]
theorem rs67 {q : Nat} {l : Bool} {n : Int32} {f : Nat} (hf : 0 < f) : cReader_readTypes_L67 q l f false n S = some (S, true) := by
  obtain ⟨f, rfl⟩ := Nat.exists_eq_add_of_lt hf
  rw [Nat.zero_add, cReader_readTypes_L67, if_neg Bool.false_ne_true]
theorem rs82 {s : Nat} (hi : inbd (nI s) 96 = true) (hs : txN (nI s) = s) (K : Bool → MS → Option MS) (M : MS) : m_readSet_J82 K (nI s) M = (m_passes 45 M).bind fun p => (itm p.2 s p.1).bind (K false) := by
  unfold m_readSet_J82
  cases m_passes 45 M with
  | none => rfl
  | some p =>
    obtain ⟨M1, fl⟩ := p
    rw [Option.bind_some, Option.bind_some]
    simp only [bd, if_pos hi, hs]
    cases fl
    · rw [if_neg Bool.false_ne_true]
      exact itm_bd false s M1 (K false)
    · rw [if_pos rfl]
      exact itm_bd true s M1 (K false)
theorem rs_loop (hE : Ew E) (hm : P 4 < 24) {q s : Nat} (hq1 : eD E + 21 + 4 * P 4 ≤ q) (hq2 : q < eD E + 25 + 4 * P 4) (hs : s = 2 * (24 * eB E + P 4) ∨ s = 2 * (24 * eB E + P 4) + 1) (hX : Sta (xQ q) (yQ s) X) : ∀ e j, 481 ≤ j + e → ∀ n f g, n + 1 ≤ j → e < f → e < g → ∀ (S : CS) (M : MS) (fst : Bool), AX E P (XS X q s) S M j → (fst = true ∨ (tkE E j).1 ≠ 125) → Ou E (fun S' M' => ∃ i', j < i' ∧ AX E P (XS X q s) S' M' i') (cReader_readTypes_L67 q true f true (nI n) S) (m_readSet_L62 (nI s) g fst M) := by
  have hb := hE.2.1
  have hXY : Sta xT yTk (XS X q s) := Sta.an hX.q (SetR.st (by omega))
  have hi : inbd (nI s) 96 = true := inb_nI (by omega) (by omega)
  have hs' : txN (nI s) = s := tx_nI (by omega)
  intro e
  induction e with
  | zero =>
    intro j hj n f g hn hf hg S M fst h hh
    have := h.tc.lt
    omega
  | succ e ih =>
    intro j hj n f g hn hf hg S M fst h hh
    have hjl := h.tc.lt
    obtain ⟨f, rfl⟩ := Nat.exists_eq_add_of_lt hf
    obtain ⟨g, rfl⟩ := Nat.exists_eq_add_of_lt hg
    rw [cReader_readTypes_L67, m_readSet_L62, if_pos rfl, if_neg (show ¬ (480 : Int32) ≤ nI n from nI_ge (b := 480) (by omega) (by omega)), if_pos rfl]
    rcases h with h | h
    · have hmod : (if fst = true then m_readSet_J82 (m_readSet_L62 (nI s) (e + 1 + g)) (nI s) M else ((m_is 125 M).bind fun q76 => (if q76 = true then m_readSet_J125 M else m_readSet_J82 (m_readSet_L62 (nI s) (e + 1 + g)) (nI s) M))) = m_readSet_J82 (m_readSet_L62 (nI s) (e + 1 + g)) (nI s) M := by
        cases fst
        · have := hh.resolve_left Bool.false_ne_true
          rw [if_neg Bool.false_ne_true, show m_is 125 M = some (decide ((tkE E j).1 = 125)) from is_m h.1 (c := 125) (by omega) (by omega) (by omega), decide_eq_false this]
          rfl
        · rw [if_pos rfl]
      rw [if_pos h.1.ok, hmod, rs82 hi hs']
      have hA : AX E P (XS X q s) S M j := Or.inl h
      obtain ⟨S1, M1, fl, e1, e2, e3⟩ := skX hXY hA (v := 45) (c := 45) rfl (by omega) (by omega) (by omega) (by omega)
      rw [e1, e2, Option.bind_some, Option.bind_some]
      have h1 : ∃ j1, j ≤ j1 ∧ AX E P (XS X q s) S1 M1 j1 := by
        rcases e3 with ⟨-, rfl, rfl, -⟩ | ⟨-, -, h1, -⟩
        · exact ⟨j, Nat.le_refl _, hA⟩
        · exact ⟨j + 1, by omega, h1⟩
      obtain ⟨j1, hj1, h1⟩ := h1
      have hcl : (if fl = true then cReader_readTypes_J100 (cReader_readTypes_L67 q true (e + 1 + f)) q true (nI n) true S1 else cReader_readTypes_J99 (cReader_readTypes_L67 q true (e + 1 + f)) q true (nI n) S1) = cReader_readTypes_J100 (cReader_readTypes_L67 q true (e + 1 + f)) q true (nI n) fl S1 := by
        cases fl
        · rfl
        · rfl
      dsimp only
      rw [hcl]
      unfold cReader_readTypes_J100
      refine (rd_item hE hm hq1 hq2 hs hX h1 fl).sq (BM.id (fun M hb => rs62 (by omega) hb)) (fun _ => rfl) (fun S2 M2 h2 => ?_)
      dsimp only
      rw [if_pos rfl, if_pos rfl]
      obtain ⟨S3, M3, f3, k1, k2, k3⟩ := skX hXY h2 (v := 125) (c := 125) rfl (by omega) (by omega) (by omega) (by omega)
      rw [k1, Option.bind_some]
      simp only [bd]
      rcases k3 with ⟨rfl, rfl, rfl, t3⟩ | ⟨rfl, t3, h3, -⟩
      · rw [if_neg Bool.false_ne_true, nI_1]
        exact (ih (j1 + 1) (by omega) (n + 1) (e + 1 + f) (e + 1 + g) (by omega) (by omega) (by omega) _ _ false h2 (Or.inr t3)).im (fun _ _ ⟨i', p1, p2⟩ => ⟨i', by omega, p2⟩)
      · rw [if_pos rfl, rs67 (by omega)]
        rcases h2 with ⟨h2, -⟩ | h2
        · have hg0 : 0 < e + 1 + g := by omega
          obtain ⟨g', hg'⟩ := Nat.exists_eq_add_of_lt hg0
          rw [hg', Nat.zero_add, m_readSet_L62, if_pos h2.ok, if_neg Bool.false_ne_true, show m_is 125 M2 = some (decide ((tkE E (j1 + 1)).1 = 125)) from is_m h2 (c := 125) (by omega) (by omega) (by omega), decide_eq_true t3, Option.bind_some, if_pos rfl]
          unfold m_readSet_J125
          rw [mu_y k2, Option.bind_some]
          exact Ou.t ⟨_, by omega, h3⟩
        · have := h2.is
          omega
    · rw [if_neg h.nb, rs125 h.nb, h.sk (v := 45) (c := 45) rfl (by omega) (by omega), Option.bind_some]
      dsimp only
      rw [if_neg Bool.false_ne_true]
      unfold cReader_readTypes_J99 cReader_readTypes_J100
      rw [rtn_n hE h.dc h.tc (by rw [h.is]; decide), Option.bind_some]
      dsimp only
      rw [if_neg Bool.false_ne_true]
      exact Ou.f (rf_li h)
theorem b_c16 : ∀ i, i < 32 → bt 65536 i = decide (i = 16) := by decide +kernel
theorem b_c17 : ∀ i, i < 32 → bt 131072 i = decide (i = 17) := by decide +kernel
theorem rd_set (hE : Ew E) (hm : P 4 < 24) {q s : Nat} (hq1 : eD E + 21 + 4 * P 4 ≤ q) (hq2 : q < eD E + 25 + 4 * P 4) (hs : s = 2 * (24 * eB E + P 4) ∨ s = 2 * (24 * eB E + P 4) + 1) (hX : Sta (xQ q) (yQ s) X) (h : AX E P (fun S M => X S M ∧ Z4 S q) S M i) : Ou E (fun S' M' => ∃ i', i < i' ∧ AX E P (XS X q s) S' M' i') (cReader_readTypes q S) (m_readSet (nI s) M) := by
  have hb := hE.2.1
  have hd := hE.1
  have hXY : Sta xT yTk (XS X q s) := Sta.an hX.q (SetR.st (by omega))
  have hi : inbd (nI s) 96 = true := inb_nI (by omega) (by omega)
  have hs' : txN (nI s) = s := tx_nI (by omega)
  have hZ : Sta xT yTk (fun S M => X S M ∧ Z4 S q) := Sta.an hX.q (fun S M S' M' g e1 e2 => ⟨(e1 q 2 (fun z => by omega)).1.trans g.1, (e1 q 3 (fun z => by omega)).1.trans g.2.1, (e1 q 4 (fun z => by omega)).1.trans g.2.2.1, (e1 q 5 (fun z => by omega)).1.trans g.2.2.2⟩)
  unfold cReader_readTypes m_readSet
  obtain ⟨S1, M1, f1, a1, a2, a3⟩ := skX hZ h (v := 126) (c := 126) rfl (by omega) (by omega) (by omega) (by omega)
  rw [a1, a2, Option.bind_some, Option.bind_some]
  have h1 : ∃ j1, i ≤ j1 ∧ AX E P (fun S M => X S M ∧ Z4 S q) S1 M1 j1 := by
    rcases a3 with ⟨-, rfl, rfl, -⟩ | ⟨-, -, h1, -⟩
    · exact ⟨i, Nat.le_refl _, h⟩
    · exact ⟨i + 1, by omega, h1⟩
  obtain ⟨j1, hj1, h1⟩ := h1
  have hmod : (if f1 = true then m_readSet_J20 (nI s) 65536 (nI s) M1 else m_readSet_J20 (nI s) 0 (nI s) M1) = m_readSet_J20 (nI s) (if f1 = true then 65536 else 0) (nI s) M1 := by cases f1 <;> rfl
  dsimp only
  rw [hmod]
  unfold m_readSet_J20
  simp only [bd]
  rw [if_pos hi, if_pos hi, hs']
  have hy1 : yR (eB E) (P 4) 21 s := Or.inr (Or.inr ⟨Or.inl rfl, by omega, by omega⟩)
  have hy2 : yR (eB E) (P 4) 22 s := Or.inr (Or.inr ⟨Or.inr rfl, by omega, by omega⟩)
  -- inverted
  have h2 : AX E P (fun S M => X S M ∧ gB S q 0 = f1 ∧ Z4 S q ∧ gI M 21 s = (if f1 = true then 65536 else 0) ∧ gI M 22 s = 0) (pB S1 q 0 f1) (pI (pI M1 21 s (if f1 = true then 65536 else 0)) 22 s 0) j1 := h1.wr hm ((eqC.rf _ _).B _ (nxW hq1 hq2)) (((eqC.rf _ _).I _ (nyW hy1)).I _ (nyW hy2)) (fun _ g => ⟨hX _ _ _ _ g.1 ((eqC.rf _ _).B _ (fun z => z.2 rfl)) (((eqC.rf _ _).I _ (fun z => z.2 ⟨Or.inl rfl, rfl⟩)).I _ (fun z => z.2 ⟨Or.inr rfl, rfl⟩)), gB_same _ _ _ _, g.2, by rw [gI_other _ _ (by omega), gI_same], gI_same _ _ _ _⟩)
  have hX2 : Sta xT yTk (fun S M => X S M ∧ gB S q 0 = f1 ∧ Z4 S q ∧ gI M 21 s = (if f1 = true then 65536 else 0) ∧ gI M 22 s = 0) := fun S M S' M' g e1 e2 => ⟨(hZ S M S' M' ⟨g.1, g.2.2.1⟩ e1 e2).1, (e1 q 0 (fun z => by omega)).2.2.2.trans g.2.1, (hZ S M S' M' ⟨g.1, g.2.2.1⟩ e1 e2).2, (e2 21 s (fun z => by omega)).1.trans g.2.2.2.1, (e2 22 s (fun z => by omega)).1.trans g.2.2.2.2⟩
  obtain ⟨S2, M2, f2, c1, c2, c3⟩ := skX hX2 h2 (v := 42) (c := 42) rfl (by omega) (by omega) (by omega) (by omega)
  rw [c1, c2, Option.bind_some, Option.bind_some]
  dsimp only
  have ini : ∀ (S : CS) (M : MS), (X S M ∧ gB S q 0 = f1 ∧ Z4 S q ∧ gI M 21 s = (if f1 = true then 65536 else 0) ∧ gI M 22 s = 0) → ∀ f2 : Bool, SetR (pB S q 1 f2) (if f2 = true then pI M 21 s (gI M 21 s ||| 131072) else M) q s := by
    rintro S M ⟨-, g1, ⟨z2, z3, z4, z5⟩, g2, g3⟩ f2
    have e21 : gI (if f2 = true then pI M 21 s (gI M 21 s ||| 131072) else M) 21 s = (if f2 = true then (if f1 = true then 65536 else 0) ||| 131072 else (if f1 = true then 65536 else 0)) := by
      cases f2
      · rw [if_neg Bool.false_ne_true, if_neg Bool.false_ne_true]; exact g2
      · rw [if_pos rfl, if_pos rfl, gI_same, g2]
    have e22 : gI (if f2 = true then pI M 21 s (gI M 21 s ||| 131072) else M) 22 s = 0 := by
      cases f2
      · rw [if_neg Bool.false_ne_true]; exact g3
      · rw [if_pos rfl, gI_other _ _ (by omega)]; exact g3
    refine ⟨?_, ?_, fun i hi => ?_, fun i hi => ?_, fun i hi => ?_, fun i hi => ?_⟩
    · rw [gB_other _ _ (by omega), g1, e21]
      cases f1 <;> cases f2 <;> decide
    · rw [gB_same, e21]
      cases f1 <;> cases f2 <;> decide
    · rw [gI_pB, z2, b_0, e21]
      by_cases g : i < 12
      · rw [decide_eq_true g, Bool.true_and]
        cases f1 <;> cases f2 <;> simp only [Bool.false_eq_true, if_false, if_true, b_or, b_0, b_c16 i hi, b_c17 i hi] <;> (try rw [decide_eq_false (show ¬ i = 16 by omega)]) <;> (try rw [decide_eq_false (show ¬ i = 17 by omega)]) <;> rfl
      · rw [decide_eq_false g, Bool.false_and]
    · rw [gI_pB, z3, b_0, e21]
      by_cases g : i < 4
      · rw [decide_eq_true g, Bool.true_and]
        cases f1 <;> cases f2 <;> simp only [Bool.false_eq_true, if_false, if_true, b_or, b_0, b_c16 (12 + i) (by omega), b_c17 (12 + i) (by omega)] <;> (try rw [decide_eq_false (show ¬ 12 + i = 16 by omega)]) <;> (try rw [decide_eq_false (show ¬ 12 + i = 17 by omega)]) <;> rfl
      · rw [decide_eq_false g, Bool.false_and]
    · rw [gI_pB, z4, b_0, e22, b_0, Bool.and_false]
    · rw [gI_pB, z5, b_0, e22, b_0, Bool.and_false]
  rcases c3 with ⟨rfl, rfl, rfl, -⟩ | ⟨rfl, -, h3, hS2⟩
  · -- no star
    rw [if_neg Bool.false_ne_true, gB_same, if_neg Bool.false_ne_true]
    have h3 : AX E P (XS X q s) (pB (pB S1 q 0 f1) q 1 false) (pI (pI M1 21 s (if f1 = true then 65536 else 0)) 22 s 0) j1 := h2.wr hm ((eqC.rf _ _).B _ (nxW hq1 hq2)) (eqC.rf _ _) (fun _ g => ⟨hX _ _ _ _ g.1 ((eqC.rf _ _).B _ (fun z => z.2 rfl)) (eqC.rf _ _), ini _ _ g false⟩)
    obtain ⟨S3, M3, f3, k1, k2, k3⟩ := skX hXY h3 (v := 123) (c := 123) rfl (by omega) (by omega) (by omega) (by omega)
    rw [k1, k2, Option.bind_some, Option.bind_some]
    dsimp only
    rcases k3 with ⟨rfl, rfl, rfl, -⟩ | ⟨rfl, -, h4, hS3⟩
    · rw [if_neg Bool.false_ne_true, if_neg Bool.false_ne_true]
      unfold cReader_readTypes_J49 cReader_readTypes_J50
      rw [gB_same, if_neg Bool.false_ne_true, show (600 : Nat) = 599 + 1 from rfl, cReader_readTypes_L67, if_pos rfl, if_neg (by decide), if_neg Bool.false_ne_true]
      unfold cReader_readTypes_J99 cReader_readTypes_J100
      simp only [bd]
      have hit := (rd_item hE hm hq1 hq2 hs hX h3 false).sq (Q2 := fun S' M' => ∃ i', i < i' ∧ AX E P (XS X q s) S' M' i') (F := fun q106 => if q106.2 = true then (if false = true then (cTokens_skip 125 q106.1).bind fun q124 => (if q124.2 = true then cReader_readTypes_L67 q false 599 false (0 + 1) q124.1 else cReader_readTypes_L67 q false 599 true (0 + 1) q124.1) else cReader_readTypes_L67 q false 599 false (0 + 1) q106.1) else some (q106.1, false)) BM.sm (fun _ => rfl) (fun S4 M4 h4 => by
        dsimp only
        rw [if_pos rfl, if_neg Bool.false_ne_true, rs67 (by omega)]
        exact Ou.t ⟨_, by omega, h4⟩)
      rw [← itm_bd] at hit
      simp only [if_pos hi]
      exact hit
    · rw [if_pos rfl, if_pos rfl]
      unfold cReader_readTypes_J50
      rw [hS3, gB_pI, gB_same, if_neg Bool.false_ne_true, ← hS3]
      exact (rs_loop hE hm hq1 hq2 hs hX 481 (j1 + 1) (by omega) 0 600 600 (by omega) (by omega) (by omega) _ _ true h4 (Or.inl rfl)).im (fun _ _ ⟨i', p1, p2⟩ => ⟨i', by omega, p2⟩)
  · rw [if_pos rfl, gB_same, if_pos rfl, if_pos hi, if_pos hi]
    unfold cReader_readTypes_J49 cReader_readTypes_J50
    rw [gB_same, if_pos rfl, rs67 (by omega)]
    refine Ou.t ⟨_, (by omega : i < j1 + 1), h3.wr hm ((eqC.rf _ _).B _ (nxW hq1 hq2)) ((eqC.rf _ _).I _ (nyW hy1)) (fun _ g => ⟨hX _ _ _ _ g.1 ((eqC.rf _ _).B _ (fun z => z.2 rfl)) ((eqC.rf _ _).I _ (fun z => z.2 ⟨Or.inl rfl, rfl⟩)), ini _ _ g true⟩)⟩
end SET2
