section IGF
variable {S S' : CS} {M M' : MS} {o : Nat → Int64} {m β nt nc nb nr n s t c : Nat}
theorem CaR.ask {T : CS} {U : MS} {e n' a q : Nat} {h' m' : Int32} {v : Nat → Nat} (hC : AfC S T e n' a s t c q h' m' v) (hM : AfM M U e n' a s t c q h' m' v) (hs : s < 12) (ht : t < 12) (hc : c < 4) (hq : q ≤ m) (ha : a ≤ m) (he : e < n') (hn' : n' ≤ 6) (hv : ∀ j, j < 3 → v j < 256) (hE : ∀ i, i < n → EnR S M i m) (hu : ∀ i j, i < n → j < n → gI M 26 i = gI M 26 j → i = j) (hno : ∀ i, i < n → i ≠ e → ¬ gI M 26 i = nI (64 * s + 4 * t + c)) (hold : ∀ i, i < n' → i ≠ e → i < n) : CaR T U (m + 1) := by
  refine ⟨⟨n', hn', hC.n1, hM.n1, fun i hi => ?_, fun i j hi hj hij => ?_⟩, ⟨a + 1, by omega, hC.a, hM.a⟩, hC.h.trans hM.h.symm, hC.m1.trans hM.m1.symm⟩
  · by_cases hie : i = e
    · subst hie
      exact ⟨⟨s, t, c, hs, ht, hc, hC.k.1, hC.k.2.1, hC.k.2.2, hM.k⟩, ⟨q, by omega, hC.st, hM.st⟩, hC.g.trans hM.g.symm, fun j hj => ⟨v j, hv j hj, hC.v j hj, hM.v j hj⟩⟩
    · obtain ⟨z1, z2, z3, z4⟩ := hM.o26 i (by omega) hie
      exact (hE i (hold i hi hie)).fr (by omega) (fun j => hC.o1 i j (by omega) hie) z1 z2 z3 z4
  · by_cases hie : i = e
    · by_cases hje : j = e
      · rw [hie, hje]
      · exfalso
        have hj' := hold j hj hje
        rw [hie, hM.k, (hM.o26 j (by omega) hje).1] at hij
        exact hno j hj' hje hij.symm
    · have hi' := hold i hi hie
      rw [(hM.o26 i (by omega) hie).1] at hij
      by_cases hje : j = e
      · exfalso
        rw [hje, hM.k] at hij
        exact hno i hi' hie hij
      · rw [(hM.o26 j (by omega) hje).1] at hij
        exact hu i j hi' (hold j hj hje) hij
theorem ig_eq (h : Rl S M m) (hm : m + 1 ≤ 1024) (hB : BkR S M β) (hP : PoR S M (pcl β) β nt nc nb nr) (hs : s < nt) (ht : t < nt) (hc : c < nc) (k : Int32) : ∃ (S' : CS) (M' : MS) (r : Bool), cG_isGranted (nI s) (nI t) (nI c) k S = some (S', r) ∧ m_isAllowed (nI s) (nI t) (nI c) k M = some (M', r) ∧ Rl S' M' (m + 1) ∧ BkR S' M' β ∧ PoR S' M' (pcl β) β nt nc nb nr ∧ (∀ j, gL S' 241 j = gL S 241 j ∧ gL S' 242 j = gL S 242 j ∧ gL S' 243 j = gL S 243 j) ∧ gI M' 0 0 = gI M 0 0 := by
  have hl := hP.lim
  have hpl : pcl β + 117 ≤ 241 ∧ 7 ≤ pcl β := by unfold pcl; split <;> omega
  obtain ⟨q, hq0, q1, q2⟩ := h.sq
  obtain ⟨n, hn, n1, n2, hE, hu⟩ := h.ca.n
  obtain ⟨a, ha0, a1, a2⟩ := h.ca.a
  obtain ⟨l, hl0, l1, l2, l3⟩ := h.lo
  obtain ⟨T, e, n', h', m', v, x1, x2, x3, x4, x5, x6⟩ := cls_ask hB hP hs ht hc (by omega) q1 a1 hn n1 hE k
  obtain ⟨U, y1, y2⟩ := mod_ask hB hP hs ht hc (by omega) q2 a2 hn n2 h.ca.h h.ca.ms hu x3 x4 x6 k
  have hno : ∀ i, i < n → i ≠ e → ¬ gI M 26 i = nI (64 * s + 4 * t + c) := by
    intro i hi hie z
    rcases x6 with ⟨w1, -, w3, -⟩ | ⟨-, -, -, w4⟩
    · exact hie (hu i e hi w1 (z.trans w3.symm))
    · rcases w4 with ⟨w1, -, w3, -⟩ | ⟨w1, -⟩
      · exact hie (hu i e hi w1 (z.trans w3.symm))
      · exact w1 i hi z
  have hold : ∀ i, i < n' → i ≠ e → i < n := by
    intro i hi hie
    rcases x6 with ⟨-, w2, -⟩ | ⟨-, -, -, w4⟩
    · omega
    · rcases w4 with ⟨-, w2, -⟩ | ⟨-, w2⟩
      · omega
      · omega
  have hca := CaR.ask (m := m) x2 y2 (show s < 12 by omega) (show t < 12 by omega) (show c < 4 by omega) hq0 ha0 x3 x4 x5 hE hu hno hold
  have fC := x2.fr
  have fM := y2.fr
  have e252 : gI T 252 1 = nI l := (fC 252 1 (by simp [xCa])).1.trans l1
  have e46 : gI U 0 46 = nI l := (fM 0 46 (by simp [yCa])).1.trans l2
  have e3 : ∀ i j, i < 8 → j < 5 → gI T (254 + i) j = gI U 30 (5 * i + j) := fun i j hi hj => by
    rw [(fC (254 + i) j (by simp only [xCa]; omega)).1, (fM 30 (5 * i + j) (by simp [yCa])).1]
    exact l3 i j hi hj
  rw [x1, j34 x5 x2.v, y1, igM_eq (by omega) y2.v]
  unfold cG_isGranted_J82
  have fin : ∀ (T' : CS) (U' : MS), eqC (fun k j => ¬ xLo k j) T T' → eqC (fun k j => ¬ yLo k j) U U' → LoR T' U' (m + 1) → Rl T' U' (m + 1) ∧ BkR T' U' β ∧ PoR T' U' (pcl β) β nt nc nb nr ∧ (∀ j, gL T' 241 j = gL S 241 j ∧ gL T' 242 j = gL S 242 j ∧ gL T' 243 j = gL S 243 j) ∧ gI U' 0 0 = gI M 0 0 := by
    intro T' U' g1 g2 g3
    have gC : eqC (fun k j => ¬ xCa k j ∧ ¬ xLo k j) S T' := (fC.mono (fun k j z => z.1)).tr (g1.mono (fun k j z => z.2))
    have gM : eqC (fun k j => ¬ yCa k j ∧ ¬ yLo k j) M U' := (fM.mono (fun k j z => z.1)).tr (g2.mono (fun k j z => z.2))
    have hB' : BkR T' U' β := hB.fr (gC.mono ?_) (gM.mono ?_)
    have hP' : PoR T' U' (pcl β) β nt nc nb nr := hP.fr (gC.mono ?_) (gM.mono ?_)
    refine ⟨⟨hm, h.tx.fr (gC.mono ?_) (gM.mono ?_), h.ft.fr (gC.mono ?_) (gM.mono ?_), h.sq.fr (by omega) (gC.mono ?_) (gM.mono ?_), h.la.fr (gC.mono ?_) (gM.mono ?_), hca.fr (Nat.le_refl _) (g1.mono ?_) (g2.mono ?_), g3, β, nt, nc, nb, nr, hB', hP'⟩, hB', hP', fun j => ⟨(gC 241 j ?_).2.1, (gC 242 j ?_).2.1, (gC 243 j ?_).2.1⟩, (gM 0 0 ?_).1⟩
    all_goals (try intro k j hk)
    all_goals
      simp only [xTx, yTx, xFt, yFt, xSq, ySq, xLa, yLa, xCa, yCa, xLo, yLo, xBk, yBk, xPo, yPo] at *
      omega
  cases hnt : ntd v k with
  | true =>
    rw [if_pos rfl, if_pos rfl, add_log (by omega) e252, Option.bind_some, j412 (by omega) e46]
    refine ⟨_, _, _, rfl, rfl, fin _ _ ?_ ?_ (LoR.add e3 (by omega))⟩
    · unfold rwC
      exact ((((((eqC.rf _ T).I _ (by simp only [xLo]; omega)).I _ (by simp only [xLo]; omega)).I _ (by simp only [xLo]; omega)).I _ (by simp only [xLo]; omega)).I _ (by simp only [xLo]; omega)).I _ (by simp [xLo])
    · unfold rwM
      exact ((((((eqC.rf _ U).I _ (by simp [yLo])).I _ (by simp [yLo])).I _ (by simp [yLo])).I _ (by simp [yLo])).I _ (by simp [yLo])).I _ (by simp [yLo])
  | false =>
    rw [if_neg (by simp), if_neg (by simp)]
    exact ⟨_, _, _, rfl, rfl, fin _ _ (eqC.rf _ _) (eqC.rf _ _) ⟨l, by omega, e252, e46, e3⟩⟩
end IGF
