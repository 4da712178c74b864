/-! labels -/
theorem pr_c (x : Int32) : cG_isProcess x = some (isNum 6 x) := by
  unfold cG_isProcess isNum
  by_cases h1 : x < 0
  · simp [h1]
  · by_cases h2 : (6 : Int32) ≤ x
    · simp [h1, h2, show nI 6 ≤ x from h2]
    · simp [h1, h2, show ¬ nI 6 ≤ x from h2]
theorem pr_m (x : Int32) : m_isProcess x = some (isNum 6 x) := pr_c x
theorem ob_c (x : Int32) : cG_isObject x = some (isNum 10 x) := by
  unfold cG_isObject isNum
  by_cases h1 : x < 0
  · simp [h1]
  · by_cases h2 : (10 : Int32) ≤ x
    · simp [h1, h2, show nI 10 ≤ x from h2]
    · simp [h1, h2, show ¬ nI 10 ≤ x from h2]
theorem ob_m (x : Int32) : m_isObject x = some (isNum 10 x) := ob_c x
theorem num_no {S : CS} {k n : Nat} {x : Int64} (hn : gI S k 1 = nI n) (hn1 : n ≤ ln (k + 1)) (hl : ln (k + 1) ≤ 12) (h : ∀ j, j < n → gL S (k + 1) j ≠ x) : cNames_numberOf k x S = some (-1) := by
  have key : ∀ q i, i + q = n → ∀ f, q < f → cNames_numberOf_L2 k x S f (nI i) = some (-1) := by
    intro q
    induction q with
    | zero =>
      intro i hi f hf
      obtain ⟨f, rfl⟩ := Nat.exists_eq_add_of_lt hf
      rw [Nat.zero_add, cNames_numberOf_L2, hn, if_pos (nI_le (by omega) (by omega))]
    | succ q ih =>
      intro i hi f hf
      obtain ⟨f, rfl⟩ := Nat.exists_eq_add_of_lt hf
      rw [cNames_numberOf_L2, hn, if_neg (nI_ge (by omega) (by omega)), if_pos (inb_nI (by omega) (by omega)), tx_nI (show i < 2 ^ 31 by omega), if_neg (h i (by omega))]
      show cNames_numberOf_L2 k x S (q + 1 + f) (nI i + 1) = some (-1)
      rw [nI_1]
      exact ih (i + 1) (by omega) _ (by omega)
  exact key n 0 (by omega) 600 (by omega)
theorem ln_t (β : Nat) : ln (pcl β + 1 + 1) = 12 := by
  unfold pcl
  split <;> decide
theorem ln_c (β : Nat) : ln (pcl β + 5 + 1) = 4 := by
  unfold pcl
  split <;> decide
section LAB
variable {S : CS} {M : MS} {o : Nat → Int64} {m β nt nc nb nr : Nat}
theorem ty_num (hB : BkR S M β) (hP : PoR S M (pcl β) β nt nc nb nr) {x y : Int64} (hxy : NR0 x y) : ∃ r, cNames_numberOf (pcl β + 1) x S = some r ∧ (y ≠ 0 → m_typeOf (nI β) y M = some r) ∧ (y = 0 → r = -1) ∧ (r = -1 ∨ ∃ j, j < nt ∧ r = nI j) := by
  have hl := hP.lim
  rcases hxy with ⟨rfl, rfl⟩ | hxy
  · refine ⟨-1, num_no hP.t.1 (by rw [ln_t]; omega) (by rw [ln_t]; omega) (fun j hj => (hP.tn j hj).ne.1), fun h => absurd rfl h, fun _ => rfl, Or.inl rfl⟩
  · obtain ⟨r, e1, e2, e3⟩ := num_eq (S := S) (M := M) (k := pcl β + 1) (a := 3) (o := 12 * β) (n := nt) (x := x) (y := y) hP.t.1 (by rw [ln_t]; omega) (by rw [ln_t]; omega) (by have := hB.1; show 12 * β + nt ≤ 24; omega) (by decide) (fun j hj => (hP.tn j hj).eq hxy)
    refine ⟨r, e1, fun _ => ?_, fun h => absurd h hxy.ne.2, e3⟩
    unfold m_typeOf
    rw [if_pos (bk50 hB.1).1, (bk50 hB.1).2, hP.t.2, show (12 : Int32) * nI β = nI (12 * β) from nI_mul 12 β, e2, Option.bind_some]
theorem cl_num (hB : BkR S M β) (hP : PoR S M (pcl β) β nt nc nb nr) {x y : Int64} (hxy : NR0 x y) : ∃ r, cNames_numberOf (pcl β + 5) x S = some r ∧ (y ≠ 0 → m_classOf (nI β) y M = some r) ∧ (y = 0 → r = -1) ∧ (r = -1 ∨ ∃ j, j < nc ∧ r = nI j) := by
  have hl := hP.lim
  rcases hxy with ⟨rfl, rfl⟩ | hxy
  · refine ⟨-1, num_no hP.c.1 (by rw [ln_c]; omega) (by rw [ln_c]; omega) (fun j hj => (hP.cn j hj).ne.1), fun h => absurd rfl h, fun _ => rfl, Or.inl rfl⟩
  · obtain ⟨r, e1, e2, e3⟩ := num_eq (S := S) (M := M) (k := pcl β + 5) (a := 5) (o := 4 * β) (n := nc) (x := x) (y := y) hP.c.1 (by rw [ln_c]; omega) (by rw [ln_c]; omega) (by have := hB.1; show 4 * β + nc ≤ 8; omega) (by decide) (fun j hj => (hP.cn j hj).eq hxy)
    refine ⟨r, e1, fun _ => ?_, fun h => absurd h hxy.ne.2, e3⟩
    have b := bk5 (c := 2) hB.1 (by omega)
    unfold m_classOf
    rw [show (5 : Int32) * nI β + 2 = 5 * nI β + nI 2 from rfl, if_pos b.1, b.2, hP.c.2, show (4 : Int32) * nI β = nI (4 * β) from nI_mul 4 β, e2, Option.bind_some]
theorem tp_eq (hB : BkR S M β) (hP : PoR S M (pcl β) β nt nc nb nr) (hL : LaR S M) (p : Int32) : ∃ r, cG_typeOfProcess p S = some r ∧ ((isNum 6 p = true ∧ m_processType p M = some r) ∨ (isNum 6 p = false ∧ r = -1)) ∧ (r = -1 ∨ ∃ j, j < nt ∧ r = nI j) := by
  unfold cG_typeOfProcess
  rw [pr_c, Option.bind_some]
  cases hp : isNum 6 p with
  | false => exact ⟨-1, by simp, Or.inr ⟨rfl, rfl⟩, Or.inl rfl⟩
  | true =>
    obtain ⟨j, hj, rfl⟩ := isNum_t (by omega) hp
    obtain ⟨r, e1, e2, e3, e4⟩ := ty_num hB hP (hL.1 j hj)
    refine ⟨r, ?_, Or.inl ⟨rfl, ?_⟩, e4⟩
    · simp only [bd, hB.2.2.1, pcl_7, if_true]
      rw [if_pos (inb_nI hj (by omega)), tx_nI (by omega), e1, Option.bind_some]
    · unfold m_processType
      rw [if_pos (inb_nI hj (by omega)), tx_nI (by omega)]
      by_cases hy : gL M 23 j = 0
      · rw [if_pos hy, e3 hy]
      · rw [if_neg hy, if_pos (inb_nI hj (by omega)), hB.2.1, e2 hy, Option.bind_some]
theorem to_eq (hB : BkR S M β) (hP : PoR S M (pcl β) β nt nc nb nr) (hL : LaR S M) (p : Int32) : ∃ r, cG_typeOfObject p S = some r ∧ ((isNum 10 p = true ∧ m_typeAt p M = some r) ∨ (isNum 10 p = false ∧ r = -1)) ∧ (r = -1 ∨ ∃ j, j < nt ∧ r = nI j) := by
  unfold cG_typeOfObject
  rw [ob_c, Option.bind_some]
  cases hp : isNum 10 p with
  | false => exact ⟨-1, by simp, Or.inr ⟨rfl, rfl⟩, Or.inl rfl⟩
  | true =>
    obtain ⟨j, hj, rfl⟩ := isNum_t (by omega) hp
    obtain ⟨r, e1, e2, e3, e4⟩ := ty_num hB hP (hL.2.1 j hj)
    refine ⟨r, ?_, Or.inl ⟨rfl, ?_⟩, e4⟩
    · simp only [bd, hB.2.2.1, pcl_7, if_true]
      rw [if_pos (inb_nI hj (by omega)), tx_nI (by omega), e1, Option.bind_some]
    · unfold m_typeAt
      rw [if_pos (inb_nI hj (by omega)), tx_nI (by omega)]
      by_cases hy : gL M 24 j = 0
      · rw [if_pos hy, e3 hy]
      · rw [if_neg hy, if_pos (inb_nI hj (by omega)), hB.2.1, e2 hy, Option.bind_some]
theorem co_eq (hB : BkR S M β) (hP : PoR S M (pcl β) β nt nc nb nr) (hL : LaR S M) (p : Int32) : ∃ r, cG_classOfObject p S = some r ∧ ((isNum 10 p = true ∧ m_classAt p M = some r) ∨ (isNum 10 p = false ∧ r = -1)) ∧ (r = -1 ∨ ∃ j, j < nc ∧ r = nI j) := by
  unfold cG_classOfObject
  rw [ob_c, Option.bind_some]
  cases hp : isNum 10 p with
  | false => exact ⟨-1, by simp, Or.inr ⟨rfl, rfl⟩, Or.inl rfl⟩
  | true =>
    obtain ⟨j, hj, rfl⟩ := isNum_t (by omega) hp
    obtain ⟨r, e1, e2, e3, e4⟩ := cl_num hB hP (hL.2.2 j hj)
    refine ⟨r, ?_, Or.inl ⟨rfl, ?_⟩, e4⟩
    · simp only [bd, hB.2.2.1, pcl_7, if_true]
      rw [if_pos (inb_nI hj (by omega)), tx_nI (by omega), e1, Option.bind_some]
    · unfold m_classAt
      rw [if_pos (inb_nI hj (by omega)), tx_nI (by omega)]
      by_cases hy : gL M 25 j = 0
      · rw [if_pos hy, e3 hy]
      · rw [if_neg hy, if_pos (inb_nI hj (by omega)), hB.2.1, e2 hy, Option.bind_some]
theorem S_9 (h : Rl S M m) (hm : m + 2 ≤ 1024) (a1 a2 a3 a4 : Int32) : Nx m (st_9 a1 a2 a3 a4 (S, M, o)) := by
  have hr : Rl S (pI M 0 0 0) (m + 2) := h.th (by omega) (by omega) 0
  obtain ⟨β, nt, nc, nb, nr, hB, hP⟩ := hr.po
  unfold st_9 cG_label m_label
  by_cases h0 : a1 = 0
  · obtain ⟨r, e1, e2, -⟩ := tp_eq hB hP hr.la a2
    simp only [h0, if_true, bd, e1, Option.bind_some, pr_m]
    rcases e2 with ⟨q1, q2⟩ | ⟨q1, q2⟩
    · simp only [q1, if_true, q2, Option.bind_some]
      exact wpo_some.mpr hr
    · simp only [q1, q2, Bool.false_eq_true, if_false, if_true, Option.bind_some]
      exact wpo_some.mpr hr
  by_cases h1 : a1 = 1
  · obtain ⟨r, e1, e2, -⟩ := to_eq hB hP hr.la a2
    simp only [h1, show ¬ (1 : Int32) = 0 by decide, if_true, if_false, bd, e1, Option.bind_some, m_label_J36, ob_m, m_label_J48, m_label_J47]
    rcases e2 with ⟨q1, q2⟩ | ⟨q1, q2⟩
    · simp only [q1, if_true, q2, Option.bind_some]
      exact wpo_some.mpr hr
    · simp only [q1, q2, Bool.false_eq_true, if_false, if_true, Option.bind_some]
      exact wpo_some.mpr hr
  by_cases h2 : a1 = 2
  · obtain ⟨r, e1, e2, -⟩ := co_eq hB hP hr.la a2
    simp only [h2, show ¬ (2 : Int32) = 0 by decide, show ¬ (2 : Int32) = 1 by decide, if_true, if_false, bd, e1, Option.bind_some, m_label_J36, ob_m, m_label_J48, m_label_J47]
    rcases e2 with ⟨q1, q2⟩ | ⟨q1, q2⟩
    · simp only [q1, if_true, q2, Option.bind_some]
      exact wpo_some.mpr hr
    · simp only [q1, q2, Bool.false_eq_true, if_false, if_true, Option.bind_some]
      exact wpo_some.mpr hr
  simp only [h0, h1, h2, if_false, bd, Option.bind_some, m_label_J48, m_label_J47, Bool.false_eq_true, if_true]
  exact wpo_some.mpr hr
theorem isT_m (hB : BkR S M β) (hP : PoR S M (pcl β) β nt nc nb nr) (x : Int32) : m_isType x M = some (isNum nt x) := by
  unfold m_isType isNum
  rw [hB.2.1, if_pos (bk50 hB.1).1, (bk50 hB.1).2, hP.t.2]
  by_cases h1 : x < 0
  · simp [h1]
  · by_cases h2 : nI nt ≤ x <;> simp [h1, h2]
theorem isC_m (hB : BkR S M β) (hP : PoR S M (pcl β) β nt nc nb nr) (x : Int32) : m_isClass x M = some (isNum nc x) := by
  have b := bk5 (c := 2) hB.1 (by omega)
  unfold m_isClass isNum
  rw [hB.2.1, show (5 : Int32) * nI β + 2 = 5 * nI β + nI 2 from rfl, if_pos b.1, b.2, hP.c.2]
  by_cases h1 : x < 0
  · simp [h1]
  · by_cases h2 : nI nc ≤ x <;> simp [h1, h2]
theorem nm_t (hP : PoR S M (pcl β) β nt nc nb nr) {j : Nat} (hj : j < nt) : cNames_nameOf (pcl β + 1) (nI j) S = some (gL S (pcl β + 2) j) := by
  have hl := hP.lim
  unfold cNames_nameOf
  rw [hn_eq hP.t.1, Option.bind_some, isNum_nI (by omega) hj, if_pos rfl, ln_t, if_pos (inb_nI (by omega) (by omega)), tx_nI (by omega)]
theorem nm_c (hP : PoR S M (pcl β) β nt nc nb nr) {j : Nat} (hj : j < nc) : cNames_nameOf (pcl β + 5) (nI j) S = some (gL S (pcl β + 6) j) := by
  have hl := hP.lim
  unfold cNames_nameOf
  rw [hn_eq hP.c.1, Option.bind_some, isNum_nI (by omega) hj, if_pos rfl, ln_c, if_pos (inb_nI (by omega) (by omega)), tx_nI (by omega)]
end LAB

section ENT
variable {S S' : CS} {M M' : MS} {o : Nat → Int64} {m β nt nc nb nr : Nat}
theorem Rl.lb (h : Rl S M m) (hm : m + 2 ≤ 1024) (g1 : LaR S' M') (g2 : eqC (fun k j => ¬ xLa k j) S S') (g3 : eqC (fun k j => ¬ yLa k j ∧ nth k j) M M') : Rl S' M' (m + 2) := by
  obtain ⟨β, nt, nc, nb, nr, hB, hP⟩ := h.po
  refine ⟨by omega, h.tx.fr (g2.mono ?_) (g3.mono ?_), h.ft.fr (g2.mono ?_) (g3.mono ?_), h.sq.fr (by omega) (g2.mono ?_) (g3.mono ?_), g1, h.ca.fr (by omega) (g2.mono ?_) (g3.mono ?_), h.lo.fr (by omega) (g2.mono ?_) (g3.mono ?_), β, nt, nc, nb, nr, hB.fr (g2.mono ?_) (g3.mono ?_), hP.fr (g2.mono ?_) (g3.mono ?_)⟩
  all_goals
    intro k j hk
    simp only [xTx, yTx, xFt, yFt, xSq, ySq, xLa, yLa, xCa, yCa, xLo, yLo, xBk, yBk, xPo, yPo, nth, pcl] at *
    (try split at hk) <;> omega
theorem LaR.p (h : LaR S M) {j : Nat} {x y : Int64} (hxy : NR0 x y) : LaR (pL S 241 j x) (pL M 23 j y) := by
  obtain ⟨h1, h2, h3⟩ := h
  refine ⟨fun i hi => ?_, fun i hi => ?_, fun i hi => ?_⟩
  · rw [gL_pL, gL_pL]
    by_cases e : i = j
    · rw [if_pos ⟨rfl, e⟩, if_pos ⟨rfl, e⟩]; exact hxy
    · rw [if_neg (fun q => e q.2), if_neg (fun q => e q.2)]; exact h1 i hi
  · rw [gL_other _ _ (by omega), gL_other _ _ (by omega)]; exact h2 i hi
  · rw [gL_other _ _ (by omega), gL_other _ _ (by omega)]; exact h3 i hi
theorem LaR.ot (h : LaR S M) {j : Nat} {x y : Int64} (hxy : NR0 x y) : LaR (pL S 242 j x) (pL M 24 j y) := by
  obtain ⟨h1, h2, h3⟩ := h
  refine ⟨fun i hi => ?_, fun i hi => ?_, fun i hi => ?_⟩
  · rw [gL_other _ _ (by omega), gL_other _ _ (by omega)]; exact h1 i hi
  · rw [gL_pL, gL_pL]
    by_cases e : i = j
    · rw [if_pos ⟨rfl, e⟩, if_pos ⟨rfl, e⟩]; exact hxy
    · rw [if_neg (fun q => e q.2), if_neg (fun q => e q.2)]; exact h2 i hi
  · rw [gL_other _ _ (by omega), gL_other _ _ (by omega)]; exact h3 i hi
theorem LaR.oc (h : LaR S M) {j : Nat} {x y : Int64} (hxy : NR0 x y) : LaR (pL S 243 j x) (pL M 25 j y) := by
  obtain ⟨h1, h2, h3⟩ := h
  refine ⟨fun i hi => ?_, fun i hi => ?_, fun i hi => ?_⟩
  · rw [gL_other _ _ (by omega), gL_other _ _ (by omega)]; exact h1 i hi
  · rw [gL_other _ _ (by omega), gL_other _ _ (by omega)]; exact h2 i hi
  · rw [gL_pL, gL_pL]
    by_cases e : i = j
    · rw [if_pos ⟨rfl, e⟩, if_pos ⟨rfl, e⟩]; exact hxy
    · rw [if_neg (fun q => e q.2), if_neg (fun q => e q.2)]; exact h3 i hi
theorem S_7 (h : Rl S M m) (hm : m + 2 ≤ 1024) (a1 a2 a3 a4 : Int32) : Nx m (st_7 a1 a2 a3 a4 (S, M, o)) := by
  have hr : ∀ v, Rl S (pI M 0 0 v) (m + 2) := h.th (by omega) (by omega)
  obtain ⟨β, nt, nc, nb, nr, hB, hP⟩ := h.po
  have hl := hP.lim
  have g1 : gI (pI M 0 0 (bI true)) 0 0 = 1 := gI_same _ _ _ _
  have g0 : gI (pI M 0 0 (bI false)) 0 0 = 0 := gI_same _ _ _ _
  unfold st_7 w_enter cG_enter m_enter
  simp only [pr_c, pr_m, Option.bind_some, bd, hB.2.2.1, pcl_7, if_true, hn_eq hP.t.1, isT_m hB hP]
  have hf : Nx m (some (S, pI M 0 0 (bI true), o)) := wpo_some.mpr (hr _)
  cases hp : isNum 6 a1 with
  | false =>
    simp only [isT_m hB hP, isC_m hB hP, hp, Bool.false_eq_true, if_false, if_true, cG_enter_J21, m_enter_J20, m_enter_J21, bd, g1, Option.bind_some, m_thrown, show ¬ (1 : Nat) = 0 by decide, show ¬ (1 : Nat) = 2 by decide, show ¬ (1 : Int32) = 0 by decide]
    exact hf
  | true =>
    cases ht : isNum nt a2 with
    | false =>
      simp only [isT_m hB hP, isC_m hB hP, hp, ht, Bool.false_eq_true, if_false, if_true, cG_enter_J21, m_enter_J20, m_enter_J21, bd, g1, Option.bind_some, m_thrown, show ¬ (1 : Nat) = 0 by decide, show ¬ (1 : Nat) = 2 by decide, show ¬ (1 : Int32) = 0 by decide]
      exact hf
    | true =>
      obtain ⟨j, hj, rfl⟩ := isNum_t (by omega) hp
      obtain ⟨t, ht', rfl⟩ := isNum_t (by omega) ht
      have e12 : gI (pI M 0 0 (bI false)) 0 12 = nI β := (gI_other _ _ (by omega)).trans hB.2.1
      have b := bk12 (c := t) hB.1 (by omega)
      have i6 : inbd (nI j) 6 = true := inb_nI hj (by omega)
      simp only [isT_m hB hP, isC_m hB hP, hp, ht, if_true, m_enter_J21, bd, g0, nm_t hP ht', Option.bind_some, i6, e12, b.1, b.2, tx_nI (show j < 2 ^ 31 by omega), m_thrown, gI_pL]
      exact wpo_some.mpr (h.lb hm ((hr _).la.p (Or.inr (hP.tn t ht'))) ((eqC.rf _ _).L _ (by simp [xLa])) (((eqC.rf _ _).I _ (by simp [nth])).L _ (by simp [yLa])))
theorem S_8 (h : Rl S M m) (hm : m + 2 ≤ 1024) (a1 a2 a3 a4 : Int32) : Nx m (st_8 a1 a2 a3 a4 (S, M, o)) := by
  have hr : ∀ v, Rl S (pI M 0 0 v) (m + 2) := h.th (by omega) (by omega)
  obtain ⟨β, nt, nc, nb, nr, hB, hP⟩ := h.po
  have hl := hP.lim
  have g1 : gI (pI M 0 0 (bI true)) 0 0 = 1 := gI_same _ _ _ _
  have g0 : gI (pI M 0 0 (bI false)) 0 0 = 0 := gI_same _ _ _ _
  unfold st_8 w_put cG_put m_put
  simp only [ob_c, ob_m, Option.bind_some, bd, hB.2.2.1, pcl_7, if_true, hn_eq hP.t.1, hn_eq hP.c.1, isT_m hB hP, isC_m hB hP]
  have hf : Nx m (some (S, pI M 0 0 (bI true), o)) := wpo_some.mpr (hr _)
  cases hp : isNum 10 a1 with
  | false =>
    simp only [isT_m hB hP, isC_m hB hP, hp, Bool.false_eq_true, if_false, if_true, cG_put_J35, m_put_J28, m_put_J29, bd, g1, Option.bind_some, m_thrown, show ¬ (1 : Nat) = 0 by decide, show ¬ (1 : Nat) = 2 by decide, show ¬ (1 : Int32) ≤ 0 by decide]
    exact hf
  | true =>
    cases ht : isNum nt a2 with
    | false =>
      simp only [isT_m hB hP, isC_m hB hP, hp, ht, Bool.false_eq_true, if_false, if_true, cG_put_J35, m_put_J28, m_put_J29, bd, g1, Option.bind_some, m_thrown, show ¬ (1 : Nat) = 0 by decide, show ¬ (1 : Nat) = 2 by decide, show ¬ (1 : Int32) ≤ 0 by decide]
      exact hf
    | true =>
      cases hc : isNum nc a3 with
      | false =>
        simp only [isT_m hB hP, isC_m hB hP, hp, ht, hc, Bool.false_eq_true, if_false, if_true, cG_put_J35, m_put_J28, m_put_J29, bd, g1, Option.bind_some, m_thrown, show ¬ (1 : Nat) = 0 by decide, show ¬ (1 : Nat) = 2 by decide, show ¬ (1 : Int32) ≤ 0 by decide]
        exact hf
      | true =>
        obtain ⟨j, hj, rfl⟩ := isNum_t (by omega) hp
        obtain ⟨t, ht', rfl⟩ := isNum_t (by omega) ht
        obtain ⟨c, hc', rfl⟩ := isNum_t (by omega) hc
        have e12 : gI (pI M 0 0 (bI false)) 0 12 = nI β := (gI_other _ _ (by omega)).trans hB.2.1
        have b := bk12 (c := t) hB.1 (by omega)
        have b4 := bk4 (c := c) hB.1 (by omega)
        have i6 : inbd (nI j) 10 = true := inb_nI hj (by omega)
        have hP2 : ∀ x, PoR (pL S 242 j x) M (pcl β) β nt nc nb nr := fun x => hP.fr ((eqC.rf _ _).L _ (by simp only [xPo, pcl]; split <;> omega)) (eqC.rf _ _)
        have hn2 : ∀ x, cNames_nameOf (pcl β + 5) (nI c) (pL S 242 j x) = some (gL S (pcl β + 6) c) := fun x => by
          rw [nm_c (hP2 x) hc', gL_other _ _ (by unfold pcl; split <;> omega)]
        have h5 : ∀ (y : Int64), gL (pL (pI M 0 0 (bI false)) 24 j y) 5 (4 * β + c) = gL M 5 (4 * β + c) := fun y => gL_other _ _ (by omega)
        simp only [isT_m hB hP, isC_m hB hP, hp, ht, hc, if_true, m_put_J29, bd, g0, nm_t hP ht', Option.bind_some, i6, e12, b.1, b.2, tx_nI (show j < 2 ^ 31 by omega), m_thrown, gI_pL, gR_pL, hB.2.2.1, pcl_7, hn2, b4.1, b4.2, h5, show (0 : Int32) ≤ 0 by decide]
        exact wpo_some.mpr (h.lb hm (((hr _).la.ot (Or.inr (hP.tn t ht'))).oc (Or.inr (hP.cn c hc'))) (((eqC.rf _ _).L _ (by simp [xLa])).L _ (by simp [xLa])) ((((eqC.rf _ _).I _ (by simp [nth])).L _ (by simp [yLa])).L _ (by simp [yLa])))
end ENT
