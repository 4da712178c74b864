section ARM
variable {S S' : CS} {M M' : MS} {o : Nat → Int64} {m β nt nc nb nr n s t c : Nat}
theorem Rl.up (h : Rl S M m) {m' : Nat} (h1 : m ≤ m') (h2 : m' ≤ 1024) : Rl S M m' := h.ro h1 h2 (eqC.rf _ _)
theorem Rl.lb2 (h : Rl S M (m + 1)) (hm : m + 2 ≤ 1024) (g1 : LaR S' M') (g2 : eqC (fun k j => ¬ xLa k j) S S') (g3 : eqC (fun k j => ¬ yLa k j ∧ nth k j) M M') : Rl S' M' (m + 2) := by
  obtain ⟨β, nt, nc, nb, nr, hB, hP⟩ := h.po
  refine ⟨by omega, h.tx.fr (g2.mono ?_) (g3.mono ?_), h.ft.fr (g2.mono ?_) (g3.mono ?_), h.sq.fr (by omega) (g2.mono ?_) (g3.mono ?_), g1, h.ca.fr (by omega) (g2.mono ?_) (g3.mono ?_), h.lo.fr (by omega) (g2.mono ?_) (g3.mono ?_), β, nt, nc, nb, nr, hB.fr (g2.mono ?_) (g3.mono ?_), hP.fr (g2.mono ?_) (g3.mono ?_)⟩
  all_goals
    intro k j hk
    simp only [xTx, yTx, xFt, yFt, xSq, ySq, xLa, yLa, xCa, yCa, xLo, yLo, xBk, yBk, xPo, yPo, nth, pcl] at *
    (try split at hk) <;> omega
theorem S_10 (h : Rl S M m) (hm : m + 2 ≤ 1024) (a1 a2 a3 a4 : Int32) : Nx m (st_10 a1 a2 a3 a4 (S, M, o)) := by
  obtain ⟨β, nt, nc, nb, nr, hB, hP⟩ := h.po
  rcases al_eq hB hP h.la a1 a2 with ⟨c1, c2⟩ | ⟨c1, c2, -⟩
  · exact un_10 h hm a3 a4 c1 c2
  · have h1 : Rl S (pI M 0 0 (bI false)) m := h.th (Nat.le_refl _) h.m _
    have hB1 : BkR S (pI M 0 0 (bI false)) β := hB.fr (eqC.rf _ _) ((eqC.rf _ _).I _ (by simp [yBk]))
    have hP1 : PoR S (pI M 0 0 (bI false)) (pcl β) β nt nc nb nr := hP.fr (eqC.rf _ _) ((eqC.rf _ _).I _ (by simp [yPo]))
    rcases al_eq hB1 hP1 h1.la a1 a2 with ⟨d1, -⟩ | ⟨-, -, i, j, s, t, c, hi, hj, hs, ht, hc, p1, p2, e1, e2, e3, e4, e5, e6⟩
    · rw [c1] at d1; cases d1
    · obtain ⟨S', M', r, g1, g2, g3, -, -, -, g4⟩ := ig_eq h1 (by omega) hB1 hP1 hs ht hc a3
      have g0 : gI (pI M 0 0 (bI false)) 0 0 = 0 := gI_same _ _ _ _
      have hC : cG_ask a1 a2 a3 S = some (S', 0, r) := by
        unfold cG_ask
        simp only [c1, Option.bind_some, if_true, e1, e3, e5, g1]
      have hM : m_ask a1 a2 a3 M = some (M', r) := by
        unfold m_ask m_ask_J15
        simp only [c2, Option.bind_some, Bool.false_eq_true, if_false, bd, g0, if_true, e2, e4, e6, g2]
        cases r <;> rfl
      have g5 : gI M' 0 0 = 0 := g4.trans g0
      have hR : Rl S' M' (m + 2) := g3.up (by omega) hm
      unfold st_10 w_ask
      simp only [hC, hM, Option.bind_some, if_true, m_thrown, g5, va_up]
      cases r
      · simp only [Bool.false_eq_true, if_false, if_true]
        exact wpo_some.mpr hR
      · simp only [if_true]
        exact wpo_some.mpr hR
theorem run_fin (h : Rl S M (m + 1)) (hm : m + 2 ≤ 1024) (hB : BkR S M β) (hP : PoR S M (pcl β) β nt nc nb nr) {i y : Nat} (hi : i < 6) (hy : y < nt) : ∃ (S' : CS) (M' : MS), cG_run_J101 (nI i) (nI y) S = some (S', 0, nI y) ∧ m_run_J95 (nI i) (nI y) M = some (M', nI y) ∧ gI M' 0 0 = 0 ∧ Rl S' M' (m + 2) := by
  have hl := hP.lim
  have b := bk12 (c := y) hB.1 (by omega)
  have i6 : inbd (nI i) 6 = true := inb_nI hi (by omega)
  refine ⟨pL S 241 i (gL S (pcl β + 2) y), pI (pL M 23 i (gL M 3 (12 * β + y))) 0 0 0, ?_, ?_, gI_same _ _ _ _, ?_⟩
  · unfold cG_run_J101
    simp only [bd, hB.2.2.1, pcl_7, if_true, nm_t hP hy, Option.bind_some, i6, tx_nI (show i < 2 ^ 31 by omega)]
  · unfold m_run_J95 m_give
    simp only [bd, hB.2.1, b.1, b.2, if_true, i6, tx_nI (show i < 2 ^ 31 by omega), Option.bind_some]
  · refine h.lb2 hm ((h.la.p (j := i) (Or.inr (hP.tn y hy))).fr (eqC.rf _ _) ((eqC.rf _ _).I _ (by simp [yLa]))) ((eqC.rf _ _).L _ (by simp [xLa])) (((eqC.rf _ _).L _ (by simp [yLa])).I _ (by simp [nth]))
theorem S_11 (h : Rl S M m) (hm : m + 2 ≤ 1024) (a1 a2 a3 a4 : Int32) : Nx m (st_11 a1 a2 a3 a4 (S, M, o)) := by
  obtain ⟨β, nt, nc, nb, nr, hB, hP⟩ := h.po
  rcases al_eq hB hP h.la a1 a2 with ⟨c1, c2⟩ | ⟨c1, c2, i, j, s, t, c, hi, hj, hs, ht, hc, rfl, rfl, e1, e2, e3, e4, e5, e6⟩
  · exact un_11 h hm a3 a4 c1 c2
  · have hfail : ∀ (S1 : CS) (M1 : MS), cG_run (nI i) (nI j) S = some (S1, 2, 0) → m_run (nI i) (nI j) M = some (pI M1 0 0 2, 0) → Rl S1 M1 (m + 2) → Nx m (st_11 (nI i) (nI j) a3 a4 (S, M, o)) := by
      intro S1 M1 x1 x2 x3
      have g2 : gI (pI M1 0 0 2) 0 0 = 2 := gI_same _ _ _ _
      unfold st_11 w_run
      simp only [x1, x2, Option.bind_some, show ¬ (2 : Nat) = 0 by decide, if_false, if_true, m_thrown, g2, show ¬ (2 : Int32) = 0 by decide]
      exact wpo_some.mpr (x3.th (Nat.le_refl _) hm 2)
    have hok : ∀ (S1 : CS) (M1 : MS) (y : Int32), cG_run (nI i) (nI j) S = some (S1, 0, y) → m_run (nI i) (nI j) M = some (M1, y) → gI M1 0 0 = 0 → Rl S1 M1 (m + 2) → Nx m (st_11 (nI i) (nI j) a3 a4 (S, M, o)) := by
      intro S1 M1 y x1 x2 x3 x4
      unfold st_11 w_run
      simp only [x1, x2, Option.bind_some, if_true, m_thrown, x3, va_up]
      exact wpo_some.mpr x4
    obtain ⟨S1, M1, r1, g1, g2, g3, gB1, gP1, -, -⟩ := ig_eq h (by omega) hB hP hs ht hc 0
    cases r1 with
    | false =>
      refine hfail S1 M1 ?_ ?_ (g3.up (by omega) hm)
      · unfold cG_run
        simp only [c1, Option.bind_some, if_true, e1, e3, e5, g1, Bool.false_eq_true, if_false]
      · unfold m_run m_give
        simp only [c2, Option.bind_some, Bool.false_eq_true, if_false, e2, e4, e6, g2, bd]
    | true =>
      obtain ⟨y, hy, v1, v2⟩ := mv_eq gB1 gP1 hs ht hc hs
      by_cases hys : nI y = nI s
      · obtain ⟨S2, M2, z1, z2, z3, z4⟩ := run_fin g3 hm gB1 gP1 hi hy
        refine hok S2 M2 (nI y) ?_ ?_ z3 z4
        · unfold cG_run
          simp only [c1, Option.bind_some, if_true, e1, e3, e5, g1, bd, gB1.2.2.1, pcl_7, v1, hys]
          rw [← hys]
          exact z1
        · unfold m_run
          simp only [c2, Option.bind_some, Bool.false_eq_true, if_false, if_true, e2, e4, e6, g2, v2, hys]
          rw [← hys]
          exact z2
      · obtain ⟨S2, M2, r2, q1, q2, q3, qB, qP, -, -⟩ := ig_eq g3 (by omega) gB1 gP1 hy ht hc 1
        cases r2 with
        | false =>
          refine hfail S2 M2 ?_ ?_ q3
          · unfold cG_run
            simp only [c1, Option.bind_some, if_true, e1, e3, e5, g1, bd, gB1.2.2.1, pcl_7, v1, hys, if_false, q1, Bool.false_eq_true]
          · unfold m_run m_give
            simp only [c2, Option.bind_some, Bool.false_eq_true, if_false, if_true, e2, e4, e6, g2, v2, hys, q2, bd]
        | true =>
          have hl := qP.lim
          have b := bk12 (c := y) qB.1 (by omega)
          have i6 : inbd (nI i) 6 = true := inb_nI hi (by omega)
          refine hok (pL S2 241 i (gL S2 (pcl β + 2) y)) (pI (pL M2 23 i (gL M2 3 (12 * β + y))) 0 0 0) (nI y) ?_ ?_ (gI_same _ _ _ _) ?_
          · unfold cG_run cG_run_J101
            simp only [c1, Option.bind_some, if_true, e1, e3, e5, g1, bd, gB1.2.2.1, pcl_7, v1, hys, if_false, q1, qB.2.2.1, nm_t qP hy, i6, tx_nI (show i < 2 ^ 31 by omega)]
          · unfold m_run m_run_J95 m_give
            simp only [c2, Option.bind_some, Bool.false_eq_true, if_false, if_true, e2, e4, e6, g2, v2, hys, q2, bd, qB.2.1, b.1, b.2, i6, tx_nI (show i < 2 ^ 31 by omega)]
          · obtain ⟨β', nt', nc', nb', nr', hB', hP'⟩ := q3.po
            refine ⟨by omega, q3.tx.fr ?_ ?_, q3.ft.fr ?_ ?_, q3.sq.fr (by omega) ?_ ?_, (q3.la.p (j := i) (Or.inr (qP.tn y hy))).fr (eqC.rf _ _) ((eqC.rf _ _).I _ (by simp [yLa])), q3.ca.fr (by omega) ?_ ?_, q3.lo.fr (by omega) ?_ ?_, β, nt, nc, nb, nr, qB.fr ?_ ?_, qP.fr ?_ ?_⟩
            all_goals first
              | exact (eqC.rf _ _).L _ (by simp only [xTx, xFt, xSq, xCa, xLo, xBk, xPo, pcl]; (try split) <;> omega)
              | exact ((eqC.rf _ _).L _ (by simp only [yTx, yFt, ySq, yCa, yLo, yBk, yPo]; omega)).I _ (by simp only [yTx, yFt, ySq, yCa, yLo, yBk, yPo]; omega)
theorem S_12 (h : Rl S M m) (hm : m + 2 ≤ 1024) (a1 a2 a3 a4 : Int32) : Nx m (st_12 a1 a2 a3 a4 (S, M, o)) := by
  obtain ⟨β, nt, nc, nb, nr, hB, hP⟩ := h.po
  have hl := hP.lim
  rcases al_eq hB hP h.la a1 a2 with ⟨c1, c2⟩ | ⟨c1, c2, i, j, s, t, c, hi, hj, hs, ht, hc, rfl, rfl, e1, e2, e3, e4, e5, e6⟩
  · exact un_12 h hm a3 a4 c1 c2
  · have hfl1 : cG_make (nI i) (nI j) a3 S = some (S, 1, 0) → m_make (nI i) (nI j) a3 M = some (pI M 0 0 1, 0) → Nx m (st_12 (nI i) (nI j) a3 a4 (S, M, o)) := by
      intro x1 x2
      have g1 : gI (pI M 0 0 1) 0 0 = 1 := gI_same _ _ _ _
      unfold st_12 w_make
      simp only [x1, x2, Option.bind_some, show ¬ (1 : Nat) = 0 by decide, show ¬ (1 : Nat) = 2 by decide, if_false, if_true, m_thrown, g1, show ¬ (1 : Int32) = 0 by decide]
      exact wpo_some.mpr (h.th (by omega) hm 1)
    have hfail : ∀ (S1 : CS) (M1 : MS), cG_make (nI i) (nI j) a3 S = some (S1, 2, 0) → m_make (nI i) (nI j) a3 M = some (pI M1 0 0 2, 0) → Rl S1 M1 (m + 2) → Nx m (st_12 (nI i) (nI j) a3 a4 (S, M, o)) := by
      intro S1 M1 x1 x2 x3
      have g2 : gI (pI M1 0 0 2) 0 0 = 2 := gI_same _ _ _ _
      unfold st_12 w_make
      simp only [x1, x2, Option.bind_some, show ¬ (2 : Nat) = 0 by decide, if_false, if_true, m_thrown, g2, show ¬ (2 : Int32) = 0 by decide]
      exact wpo_some.mpr (x3.th (Nat.le_refl _) hm 2)
    obtain ⟨r3, u1, u2, u3⟩ := to_eq hB hP h.la a3
    rcases u2 with ⟨w1, w2⟩ | ⟨w1, w2⟩
    · obtain ⟨l, hl3, rfl⟩ := isNum_t (by omega) w1
      rcases u3 with rfl | ⟨z, hz, rfl⟩
      · obtain ⟨S1, M1, r1, g1, g2, g3, gB1, gP1, -, -⟩ := ig_eq h (by omega) hB hP hs ht hc 2
        cases r1 with
        | false =>
          refine hfail S1 M1 ?_ ?_ (g3.up (by omega) hm)
          · unfold cG_make cG_make_J68
            simp only [c1, Option.bind_some, if_true, ob_c, w1, e1, e3, e5, u1, g1, Bool.false_eq_true, if_false]
          · unfold m_make m_give
            simp only [c2, Option.bind_some, Bool.false_eq_true, if_false, if_true, ob_m, w1, w2, show (-1 : Int32) < 0 by decide, e2, e4, e6, g2, bd]
        | true =>
          obtain ⟨y, hy, v1, v2⟩ := mv_eq gB1 gP1 hs ht hc ht
          have b := bk12 (c := y) gB1.1 (by omega)
          have b4 := bk4 (c := c) gB1.1 (by omega)
          have i10 : inbd (nI l) 10 = true := inb_nI hl3 (by omega)
          have hpl : pcl β + 117 ≤ 241 := by unfold pcl; split <;> omega
          have hP2 : ∀ x, PoR (pL S1 242 l x) M1 (pcl β) β nt nc nb nr := fun x => gP1.fr ((eqC.rf _ _).L _ (by simp only [xPo]; omega)) (eqC.rf _ _)
          have hn2 : ∀ x, cNames_nameOf (pcl β + 5) (nI c) (pL S1 242 l x) = some (gL S1 (pcl β + 6) c) := fun x => by
            rw [nm_c (hP2 x) hc, gL_other _ _ (by omega)]
          have h5 : ∀ (y : Int64), gL (pL M1 24 l y) 5 (4 * β + c) = gL M1 5 (4 * β + c) := fun y => gL_other _ _ (by omega)
          have hC : cG_make (nI i) (nI j) (nI l) S = some (pL (pL S1 242 l (gL S1 (pcl β + 2) y)) 243 l (gL S1 (pcl β + 6) c), 0, nI y) := by
            unfold cG_make
            simp only [c1, Option.bind_some, if_true, ob_c, w1, e1, e3, e5, u1, g1, bd, gB1.2.2.1, pcl_7, v1, nm_t gP1 hy, i10, tx_nI (show l < 2 ^ 31 by omega), gR_pL, hn2]
          have hM : m_make (nI i) (nI j) (nI l) M = some (pI (pL (pL M1 24 l (gL M1 3 (12 * β + y))) 25 l (gL M1 5 (4 * β + c))) 0 0 0, nI y) := by
            unfold m_make m_give
            simp only [c2, Option.bind_some, Bool.false_eq_true, if_false, if_true, ob_m, w1, w2, show (-1 : Int32) < 0 by decide, e2, e4, e6, g2, bd, v2, gB1.2.1, b.1, b.2, i10, tx_nI (show l < 2 ^ 31 by omega), gI_pL, b4.1, b4.2, h5]
          have g00 : gI (pI (pL (pL M1 24 l (gL M1 3 (12 * β + y))) 25 l (gL M1 5 (4 * β + c))) 0 0 0) 0 0 = 0 := gI_same _ _ _ _
          unfold st_12 w_make
          simp only [hC, hM, Option.bind_some, if_true, m_thrown, g00, va_up]
          exact wpo_some.mpr (g3.lb2 hm (((g3.la.ot (j := l) (Or.inr (gP1.tn y hy))).oc (j := l) (Or.inr (gP1.cn c hc))).fr (eqC.rf _ _) ((eqC.rf _ _).I _ (by simp [yLa]))) (((eqC.rf _ _).L _ (by simp [xLa])).L _ (by simp [xLa])) ((((eqC.rf _ _).L _ (by simp [yLa])).L _ (by simp [yLa])).I _ (by simp [nth])))
      · refine hfail S M ?_ ?_ (h.up (by omega) hm)
        · unfold cG_make cG_make_J68
          simp only [c1, Option.bind_some, if_true, ob_c, w1, e1, e3, e5, u1, if_neg (ne_m1 (show z < 2 ^ 31 by omega))]
        · unfold m_make m_give
          simp only [c2, Option.bind_some, Bool.false_eq_true, if_false, if_true, ob_m, w1, w2, if_neg (nI_pos (show z < 2 ^ 31 by omega)), bd]
    · refine hfl1 ?_ ?_
      · unfold cG_make cG_make_J16
        simp only [c1, Option.bind_some, if_true, ob_c, w1, Bool.false_eq_true, if_false]
      · unfold m_make m_make_J16 m_give
        simp only [c2, Option.bind_some, Bool.false_eq_true, if_false, ob_m, w1, bd]
end ARM
