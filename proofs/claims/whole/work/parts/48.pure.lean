section IM
variable {S S' : CS} {M M' : MS} {o : Nat → Int64} {m β nt nc nb nr n s t c : Nat}
abbrev AfM (M T : MS) (e n' a s t c q : Nat) (h' m' : Int32) (v : Nat → Nat) : Prop := (eqC (fun k j => ¬ yCa k j) M T) ∧ (gI T 0 42 = nI n') ∧ (gI T 0 43 = nI (a + 1)) ∧ (gI T 0 44 = h') ∧ (gI T 0 45 = m') ∧ (∀ i, i < 6 → i ≠ e → gI T 26 i = gI M 26 i ∧ gI T 27 i = gI M 27 i ∧ gI T 29 i = gI M 29 i ∧ ∀ j, j < 3 → gI T 28 (3 * i + j) = gI M 28 (3 * i + j)) ∧ (gI T 26 e = nI (64 * s + 4 * t + c)) ∧ (gI T 27 e = nI q) ∧ (gI T 29 e = nI (a + 1)) ∧ (∀ j, j < 3 → gI T 28 (3 * e + j) = nI (v j))
theorem AfM.fr {M T : MS} {e n' a s t c q : Nat} {h' m' : Int32} {v : Nat → Nat} (zh : AfM M T e n' a s t c q h' m' v) : eqC (fun k j => ¬ yCa k j) M T := zh.1
theorem AfM.n1 {M T : MS} {e n' a s t c q : Nat} {h' m' : Int32} {v : Nat → Nat} (zh : AfM M T e n' a s t c q h' m' v) : gI T 0 42 = nI n' := zh.2.1
theorem AfM.a {M T : MS} {e n' a s t c q : Nat} {h' m' : Int32} {v : Nat → Nat} (zh : AfM M T e n' a s t c q h' m' v) : gI T 0 43 = nI (a + 1) := zh.2.2.1
theorem AfM.h {M T : MS} {e n' a s t c q : Nat} {h' m' : Int32} {v : Nat → Nat} (zh : AfM M T e n' a s t c q h' m' v) : gI T 0 44 = h' := zh.2.2.2.1
theorem AfM.m1 {M T : MS} {e n' a s t c q : Nat} {h' m' : Int32} {v : Nat → Nat} (zh : AfM M T e n' a s t c q h' m' v) : gI T 0 45 = m' := zh.2.2.2.2.1
theorem AfM.o26 {M T : MS} {e n' a s t c q : Nat} {h' m' : Int32} {v : Nat → Nat} (zh : AfM M T e n' a s t c q h' m' v) : ∀ i, i < 6 → i ≠ e → gI T 26 i = gI M 26 i ∧ gI T 27 i = gI M 27 i ∧ gI T 29 i = gI M 29 i ∧ ∀ j, j < 3 → gI T 28 (3 * i + j) = gI M 28 (3 * i + j) := zh.2.2.2.2.2.1
theorem AfM.k {M T : MS} {e n' a s t c q : Nat} {h' m' : Int32} {v : Nat → Nat} (zh : AfM M T e n' a s t c q h' m' v) : gI T 26 e = nI (64 * s + 4 * t + c) := zh.2.2.2.2.2.2.1
theorem AfM.st {M T : MS} {e n' a s t c q : Nat} {h' m' : Int32} {v : Nat → Nat} (zh : AfM M T e n' a s t c q h' m' v) : gI T 27 e = nI q := zh.2.2.2.2.2.2.2.1
theorem AfM.g {M T : MS} {e n' a s t c q : Nat} {h' m' : Int32} {v : Nat → Nat} (zh : AfM M T e n' a s t c q h' m' v) : gI T 29 e = nI (a + 1) := zh.2.2.2.2.2.2.2.2.1
theorem AfM.v {M T : MS} {e n' a s t c q : Nat} {h' m' : Int32} {v : Nat → Nat} (zh : AfM M T e n' a s t c q h' m' v) : ∀ j, j < 3 → gI T 28 (3 * e + j) = nI (v j) := zh.2.2.2.2.2.2.2.2.2
theorem wk_same (hB : BkR S M β) (hP : PoR S M (pcl β) β nt nc nb nr) (hB1 : BkR S M' β) (hP1 : PoR S M' (pcl β) β nt nc nb nr) {w : Nat} (hw : w < 3) (hs : s < nt) (ht : t < nt) (hc : c < nc) : m_worked (nI w) (nI s) (nI t) (nI c) M' = m_worked (nI w) (nI s) (nI t) (nI c) M := by
  obtain ⟨v, -, a1, a2⟩ := vec_eq hB hP hw hs ht hc
  obtain ⟨v', -, b1, b2⟩ := vec_eq hB1 hP1 hw hs ht hc
  rw [a2, b2, ← a1, ← b1]
def igM (x1 x2 x3 k : Int32) (e : Nat) (T : MS) : Option (MS × Bool) := if k < 0 then m_isAllowed_J298 x1 x2 x3 k (nI e) false T else (if 8 ≤ k then m_isAllowed_J298 x1 x2 x3 k (nI e) false T else m_isAllowed_J298 x1 x2 x3 k (nI e) true T)
theorem j260 {e a : Nat} {x1 x2 x3 k : Int32} (he : e < 6) (ha : gI M 0 43 = nI a) : m_isAllowed_J260 x1 x2 x3 k (nI e) M = igM x1 x2 x3 k e (pI (pI M 0 43 (nI (a + 1))) 29 e (nI (a + 1))) := by
  unfold m_isAllowed_J260 igM m_isAllowed_J297
  simp only [bd, ha, nI_1, inb_nI he (show 6 < 2 ^ 31 by omega), if_true, tx_nI (show e < 2 ^ 31 by omega), gI_same]
theorem j191 (hB : BkR S M β) (hP : PoR S M (pcl β) β nt nc nb nr) {e a q : Nat} {k : Int32} {hit : Bool} {v : Nat → Nat} (he : e < 6) (hs : s < nt) (ht : t < nt) (hc : c < nc) (hq : gI M 0 34 = nI q) (ha : gI M 0 43 = nI a) (hv : hit = false → ∀ w, w < 3 → m_worked (nI w) (nI s) (nI t) (nI c) M = some (nI (v w))) (hv2 : hit = true → ∀ j, j < 3 → gI M 28 (3 * e + j) = nI (v j)) : ∃ T, m_isAllowed_J191 (nI s) (nI t) (nI c) k (nI e) hit M = igM (nI s) (nI t) (nI c) k e T ∧ eqC (fun k j => ¬ ((26 ≤ k ∧ k ≤ 29) ∨ (k = 0 ∧ j = 43))) M T ∧ gI T 0 43 = nI (a + 1) ∧ (∀ i, i < 6 → i ≠ e → gI T 26 i = gI M 26 i ∧ gI T 27 i = gI M 27 i ∧ gI T 29 i = gI M 29 i ∧ ∀ j, j < 3 → gI T 28 (3 * i + j) = gI M 28 (3 * i + j)) ∧ gI T 26 e = nI (64 * s + 4 * t + c) ∧ gI T 27 e = nI q ∧ gI T 29 e = nI (a + 1) ∧ ∀ j, j < 3 → gI T 28 (3 * e + j) = nI (v j) := by
  have hk : (64 : Int32) * nI s + 4 * nI t + nI c = nI (64 * s + 4 * t + c) := by
    rw [show (64 : Int32) = nI 64 from rfl, show (4 : Int32) = nI 4 from rfl, nI_mul, nI_mul, nI_add, nI_add]
  have r34 : ∀ x, gI (pI M 26 e x) 0 34 = nI q := fun x => by (repeat (first | rw [gI_same] | rw [gI_other _ _ (by omega)] | rw [gI_pL] | rw [gI_pB] | rw [gI_pR])); exact hq
  unfold m_isAllowed_J191
  simp only [bd, inb_nI he (show 6 < 2 ^ 31 by omega), if_true, tx_nI (show e < 2 ^ 31 by omega), hk, r34]
  generalize hM1 : pI (pI M 26 e (nI (64 * s + 4 * t + c))) 27 e (nI q) = M1
  have e1 : eqC (fun k j => ¬ ((26 ≤ k ∧ k ≤ 29) ∨ (k = 0 ∧ j = 43))) M M1 := by
    rw [← hM1]
    exact ((eqC.rf _ M).I _ (by simp)).I _ (by simp)
  cases hit with
  | true =>
    refine ⟨pI (pI M1 0 43 (nI (a + 1))) 29 e (nI (a + 1)), ?_, (e1.I _ (by simp)).I _ (by simp), ?_, fun i hi hie => ⟨?_, ?_, ?_, fun j hj => ?_⟩, ?_, ?_, ?_, fun j hj => ?_⟩
    · show m_isAllowed_L222 (nI s) (nI t) (nI c) k (nI e) true (599 + 1) 0 M1 = _
      rw [m_isAllowed_L222, if_neg (by decide), if_pos rfl]
      exact j260 he (by rw [← hM1]; (repeat (first | rw [gI_same] | rw [gI_other _ _ (by omega)] | rw [gI_pL] | rw [gI_pB] | rw [gI_pR])); exact ha)
    · (repeat (first | rw [gI_same] | rw [gI_other _ _ (by omega)] | rw [gI_pL] | rw [gI_pB] | rw [gI_pR]))
    · rw [← hM1]; (repeat (first | rw [gI_same] | rw [gI_other _ _ (by omega)] | rw [gI_pL] | rw [gI_pB] | rw [gI_pR]))
    · rw [← hM1]; (repeat (first | rw [gI_same] | rw [gI_other _ _ (by omega)] | rw [gI_pL] | rw [gI_pB] | rw [gI_pR]))
    · rw [← hM1]; (repeat (first | rw [gI_same] | rw [gI_other _ _ (by omega)] | rw [gI_pL] | rw [gI_pB] | rw [gI_pR]))
    · rw [← hM1]; (repeat (first | rw [gI_same] | rw [gI_other _ _ (by omega)] | rw [gI_pL] | rw [gI_pB] | rw [gI_pR]))
    · rw [← hM1]; (repeat (first | rw [gI_same] | rw [gI_other _ _ (by omega)] | rw [gI_pL] | rw [gI_pB] | rw [gI_pR]))
    · rw [← hM1]; (repeat (first | rw [gI_same] | rw [gI_other _ _ (by omega)] | rw [gI_pL] | rw [gI_pB] | rw [gI_pR]))
    · (repeat (first | rw [gI_same] | rw [gI_other _ _ (by omega)] | rw [gI_pL] | rw [gI_pB] | rw [gI_pR]))
    · rw [← hM1]; (repeat (first | rw [gI_same] | rw [gI_other _ _ (by omega)] | rw [gI_pL] | rw [gI_pB] | rw [gI_pR])); exact hv2 rfl j hj
  | false =>
    have hb : ∀ T : MS, eqC (fun k j => ¬ (26 ≤ k ∧ k ≤ 29)) M T → BkR S T β ∧ PoR S T (pcl β) β nt nc nb nr := fun T hT => ⟨hB.fr (eqC.rf _ _) (hT.mono (fun k j h => by simp only [yBk] at h; omega)), hP.fr (eqC.rf _ _) (hT.mono (fun k j h => by simp only [yPo] at h; omega))⟩
    have f1 : eqC (fun k j => ¬ (26 ≤ k ∧ k ≤ 29)) M M1 := by
      rw [← hM1]
      exact ((eqC.rf _ M).I _ (by simp)).I _ (by simp)
    have f2 := f1.I (k := 28) (j := 3 * e) (nI (v 0)) (by simp)
    have f3 := f2.I (k := 28) (j := 3 * e + 1) (nI (v 1)) (by simp)
    have w0 : m_worked 0 (nI s) (nI t) (nI c) M1 = some (nI (v 0)) := (wk_same hB hP (hb _ f1).1 (hb _ f1).2 (w := 0) (by omega) hs ht hc).trans (hv rfl 0 (by omega))
    have w1 : m_worked (0 + 1) (nI s) (nI t) (nI c) (pI M1 28 (3 * e) (nI (v 0))) = some (nI (v 1)) := (wk_same hB hP (hb _ f2).1 (hb _ f2).2 (w := 1) (by omega) hs ht hc).trans (hv rfl 1 (by omega))
    have w2 : m_worked (0 + 1 + 1) (nI s) (nI t) (nI c) (pI (pI M1 28 (3 * e) (nI (v 0))) 28 (3 * e + 1) (nI (v 1))) = some (nI (v 2)) := (wk_same hB hP (hb _ f3).1 (hb _ f3).2 (w := 2) (by omega) hs ht hc).trans (hv rfl 2 (by omega))
    have i18 : ∀ j, j < 3 → inbd (3 * nI e + nI j) 18 = true ∧ txN (3 * nI e + nI j) = 3 * e + j := fun j hj => by
      have e : (3 : Int32) * nI e + nI j = nI (3 * e + j) := by rw [show (3 : Int32) = nI 3 from rfl, nI_mul, nI_add]
      rw [e]
      exact ⟨inb_nI (by omega) (by omega), tx_nI (by omega)⟩
    refine ⟨pI (pI (pI (pI (pI M1 28 (3 * e) (nI (v 0))) 28 (3 * e + 1) (nI (v 1))) 28 (3 * e + 2) (nI (v 2))) 0 43 (nI (a + 1))) 29 e (nI (a + 1)), ?_, ((((e1.I _ (by simp)).I _ (by simp)).I _ (by simp)).I _ (by simp)).I _ (by simp), ?_, fun i hi hie => ⟨?_, ?_, ?_, fun j hj => ?_⟩, ?_, ?_, ?_, fun j hj => ?_⟩
    · show m_isAllowed_L222 (nI s) (nI t) (nI c) k (nI e) false (597 + 1 + 1 + 1) 0 M1 = _
      rw [m_isAllowed_L222, if_neg (by decide), if_neg (by simp), w0, Option.bind_some, show (0 : Int32) = nI 0 from rfl, if_pos (i18 0 (by omega)).1, (i18 0 (by omega)).2]
      simp only [bd, Nat.add_zero]
      rw [m_isAllowed_L222, if_neg (by decide), if_neg (by simp), show nI 0 + 1 = 0 + 1 from rfl, w1, Option.bind_some, show (0 : Int32) + 1 = nI 1 from rfl, if_pos (i18 1 (by omega)).1, (i18 1 (by omega)).2]
      simp only [bd]
      rw [m_isAllowed_L222, if_neg (by decide), if_neg (by simp), show nI 1 + 1 = 0 + 1 + 1 from rfl, w2, Option.bind_some, show (0 : Int32) + 1 + 1 = nI 2 from rfl, if_pos (i18 2 (by omega)).1, (i18 2 (by omega)).2]
      simp only [bd]
      rw [show 597 = 596 + 1 from rfl, m_isAllowed_L222, if_pos (by decide)]
      exact j260 he (by rw [← hM1]; (repeat (first | rw [gI_same] | rw [gI_other _ _ (by omega)] | rw [gI_pL] | rw [gI_pB] | rw [gI_pR])); exact ha)
    · (repeat (first | rw [gI_same] | rw [gI_other _ _ (by omega)] | rw [gI_pL] | rw [gI_pB] | rw [gI_pR]))
    · rw [← hM1]; (repeat (first | rw [gI_same] | rw [gI_other _ _ (by omega)] | rw [gI_pL] | rw [gI_pB] | rw [gI_pR]))
    · rw [← hM1]; (repeat (first | rw [gI_same] | rw [gI_other _ _ (by omega)] | rw [gI_pL] | rw [gI_pB] | rw [gI_pR]))
    · rw [← hM1]; (repeat (first | rw [gI_same] | rw [gI_other _ _ (by omega)] | rw [gI_pL] | rw [gI_pB] | rw [gI_pR]))
    · rw [← hM1]; (repeat (first | rw [gI_same] | rw [gI_other _ _ (by omega)] | rw [gI_pL] | rw [gI_pB] | rw [gI_pR]))
    · rw [← hM1]; (repeat (first | rw [gI_same] | rw [gI_other _ _ (by omega)] | rw [gI_pL] | rw [gI_pB] | rw [gI_pR]))
    · rw [← hM1]; (repeat (first | rw [gI_same] | rw [gI_other _ _ (by omega)] | rw [gI_pL] | rw [gI_pB] | rw [gI_pR]))
    · (repeat (first | rw [gI_same] | rw [gI_other _ _ (by omega)] | rw [gI_pL] | rw [gI_pB] | rw [gI_pR]))
    · have : j = 0 ∨ j = 1 ∨ j = 2 := by omega
      rcases this with rfl | rfl | rfl
      · simp only [Nat.add_zero]
        (repeat (first | rw [gI_same] | rw [gI_other _ _ (by omega)] | rw [gI_pL] | rw [gI_pB] | rw [gI_pR]))
      · (repeat (first | rw [gI_same] | rw [gI_other _ _ (by omega)] | rw [gI_pL] | rw [gI_pB] | rw [gI_pR]))
      · (repeat (first | rw [gI_same] | rw [gI_other _ _ (by omega)] | rw [gI_pL] | rw [gI_pB] | rw [gI_pR]))
theorem mf_fin (hB : BkR S M β) (hP : PoR S M (pcl β) β nt nc nb nr) {q a e n' : Nat} {h' m' k : Int32} {v : Nat → Nat} (hs : s < nt) (ht : t < nt) (hc : c < nc) (hq : gI M 0 34 = nI q) (ha : gI M 0 43 = nI a) (he6 : e < 6) (T0 : MS) (hit : Bool) (f0 : eqC (fun k j => ¬ (k = 0 ∧ (j = 42 ∨ j = 44 ∨ j = 45))) M T0) (t42 : gI T0 0 42 = nI n') (t44 : gI T0 0 44 = h') (t45 : gI T0 0 45 = m') (h1 : hit = false → ∀ w, w < 3 → m_worked (nI w) (nI s) (nI t) (nI c) M = some (nI (v w))) (h2 : hit = true → ∀ j, j < 3 → gI M 28 (3 * e + j) = nI (v j)) : ∃ T, m_isAllowed_J191 (nI s) (nI t) (nI c) k (nI e) hit T0 = igM (nI s) (nI t) (nI c) k e T ∧ AfM M T e n' a s t c q h' m' v := by
  have hb : BkR S T0 β ∧ PoR S T0 (pcl β) β nt nc nb nr := ⟨hB.fr (eqC.rf _ _) (f0.mono (fun k j h => by simp only [yBk] at h; omega)), hP.fr (eqC.rf _ _) (f0.mono (fun k j h => by simp only [yPo] at h; omega))⟩
  obtain ⟨T, g1, g2, g3, g4, g5, g6, g7, g8⟩ := j191 (S := S) (M := T0) (v := v) (q := q) (a := a) (k := k) (hit := hit) hb.1 hb.2 he6 hs ht hc ((f0 0 34 (by omega)).1.trans hq) ((f0 0 43 (by omega)).1.trans ha) (fun z w hw' => (wk_same hB hP hb.1 hb.2 hw' hs ht hc).trans (h1 z w hw')) (fun z j hj => (f0 28 _ (by omega)).1.trans (h2 z j hj))
  refine ⟨T, g1, ⟨(f0.mono (fun k j h => by simp only [yCa] at h; omega)).tr (g2.mono (fun k j h => by simp only [yCa] at h; omega)), (g2 0 42 (by omega)).1.trans t42, g3, (g2 0 44 (by omega)).1.trans t44, (g2 0 45 (by omega)).1.trans t45, fun i hi hie => ?_, g5, g6, g7, g8⟩⟩
  obtain ⟨z1, z2, z3, z4⟩ := g4 i hi hie
  exact ⟨z1.trans (f0 26 _ (by omega)).1, z2.trans (f0 27 _ (by omega)).1, z3.trans (f0 29 _ (by omega)).1, fun j hj => (z4 j hj).trans (f0 28 _ (by omega)).1⟩
end IM
