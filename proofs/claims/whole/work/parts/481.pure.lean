section IM
variable {S S' : CS} {M M' : MS} {o : Nat → Int64} {m β nt nc nb nr n s t c : Nat}
theorem mf_J103 {e w : Nat} {k : Int32} {hit : Bool} (he : e < 6) : m_isAllowed_J103 (nI s) (nI t) (nI c) k (nI e) (nI w) hit M = m_isAllowed_J191 (nI s) (nI t) (nI c) k (nI e) hit (pI (pI M 0 44 (gI M 0 44 + bI hit)) 0 45 (gI (pI M 0 44 (gI M 0 44 + bI hit)) 0 45 + bI (!hit))) := by
  have h0 : (0 : Int32) ≤ nI e := nI_pos' (by omega)
  cases hit
  · rw [m_isAllowed_J103, if_neg Bool.false_ne_true, m_isAllowed_J120, bd, if_neg Bool.false_ne_true, m_isAllowed_J139, bd, if_pos h0, Bool.not_false]
  · rw [m_isAllowed_J103, if_pos rfl, m_isAllowed_J120, bd, if_pos rfl, m_isAllowed_J139, bd, if_pos h0, Bool.not_true]
theorem mf_new {w : Nat} {k : Int32} (hn : n ≤ 6) (hn2 : gI M 0 42 = nI n) : m_isAllowed_J103 (nI s) (nI t) (nI c) k (-1) (nI w) false M = m_isAllowed_J191 (nI s) (nI t) (nI c) k (nI (if n < 6 then n else w)) false (pI (pI (pI M 0 44 (gI M 0 44 + bI false)) 0 45 (gI (pI M 0 44 (gI M 0 44 + bI false)) 0 45 + bI true)) 0 42 (nI (if n < 6 then n + 1 else n))) := by
  have r42 : ∀ x y, gI (pI (pI M 0 44 x) 0 45 y) 0 42 = nI n := fun x y => by (repeat (first | rw [gI_same] | rw [gI_other _ _ (by omega)] | rw [gI_pL] | rw [gI_pB] | rw [gI_pR])); exact hn2
  rw [m_isAllowed_J103, if_neg Bool.false_ne_true, m_isAllowed_J120, bd, if_neg Bool.false_ne_true, m_isAllowed_J139, bd, if_neg (show ¬ (0 : Int32) ≤ -1 by decide), r42]
  by_cases h6 : n < 6
  · have h : ¬ (6 : Int32) ≤ nI n := nI_ge (b := 6) h6 (by omega)
    rw [if_neg h, if_pos h6, if_pos h6, m_isAllowed_J166, r42, if_neg h, m_isAllowed_J187, bd, show nI n + bI true = nI (n + 1) from nI_1 n]
  · have h : (6 : Int32) ≤ nI n := nI_le (a := 6) (by omega) (by omega)
    rw [if_pos h, if_neg h6, if_neg h6, m_isAllowed_J166, r42, if_pos h, m_isAllowed_J187, bd, show nI n + bI false = nI n from Int32.add_zero _]
theorem mod_ask (hB : BkR S M β) (hP : PoR S M (pcl β) β nt nc nb nr) {q a e n' : Nat} {h' m' : Int32} {v : Nat → Nat} (hs : s < nt) (ht : t < nt) (hc : c < nc) (hq0 : q < 2 ^ 31) (hq : gI M 0 34 = nI q) (ha : gI M 0 43 = nI a) (hn : n ≤ 6) (hn2 : gI M 0 42 = nI n) (hh : gI S 244 3 = gI M 0 44) (hmm : gI S 244 4 = gI M 0 45) (hu : ∀ i j, i < n → j < n → gI M 26 i = gI M 26 j → i = j) (he : e < n') (hn' : n' ≤ 6) (hw : Hw S M n e n' q s t c h' m' v) (k : Int32) : ∃ T, m_isAllowed (nI s) (nI t) (nI c) k M = igM (nI s) (nI t) (nI c) k e T ∧ AfM M T e n' a s t c q h' m' v := by
  have he6 : e < 6 := by omega
  obtain ⟨g', hrun⟩ := ml_run (M := M) (s := s) (t := t) (c := c) (k := k) hn hn2 n 0 (by omega) 600 0 (-1) (by omega) (by omega)
  rw [nI_0] at hrun
  have hend : m_isAllowed (nI s) (nI t) (nI c) k M = (if el (fun j => decide (gI M 26 j = nI (64 * s + 4 * t + c))) n 0 (-1) < 0 then m_isAllowed_J103 (nI s) (nI t) (nI c) k (el (fun j => decide (gI M 26 j = nI (64 * s + 4 * t + c))) n 0 (-1)) (nI (am (gI M 29) n 0 0)) false M else (if inbd (el (fun j => decide (gI M 26 j = nI (64 * s + 4 * t + c))) n 0 (-1)) 6 = true then (if gI M 27 (txN (el (fun j => decide (gI M 26 j = nI (64 * s + 4 * t + c))) n 0 (-1))) = nI q then m_isAllowed_J103 (nI s) (nI t) (nI c) k (el (fun j => decide (gI M 26 j = nI (64 * s + 4 * t + c))) n 0 (-1)) (nI (am (gI M 29) n 0 0)) true M else m_isAllowed_J103 (nI s) (nI t) (nI c) k (el (fun j => decide (gI M 26 j = nI (64 * s + 4 * t + c))) n 0 (-1)) (nI (am (gI M 29) n 0 0)) false M) else none)) := by
    rw [m_isAllowed, hrun, m_isAllowed_L9, hn2, if_pos (nI_le (Nat.le_refl _) (by omega)), m_isAllowed_J102, hq]
  rw [hend]
  clear hend hrun
  rcases hw with ⟨x1, x2, x3, x4, x5, x6, x7⟩ | ⟨x1, x2, x3, x4⟩
  · rw [el_yes (j := e) n 0 (-1) (by omega) (by omega) (by simp [x3]) (fun z g1 g2 g3 => hu z e (by omega) x1 (by simp at g3; rw [g3, x3])), if_neg (nI_pos (by omega)), if_pos (inb_nI he6 (by omega)), tx_nI (show e < 2 ^ 31 by omega), x4, if_pos rfl, mf_J103 he6]
    refine mf_fin hB hP hs ht hc hq ha he6 _ true (((eqC.rf _ M).I _ (by simp)).I _ (by simp)) (by (repeat (first | rw [gI_same] | rw [gI_other _ _ (by omega)] | rw [gI_pL] | rw [gI_pB] | rw [gI_pR])); rw [x2]; exact hn2) ?_ ?_ (fun z => by cases z) (fun _ => x7)
    · (repeat (first | rw [gI_same] | rw [gI_other _ _ (by omega)] | rw [gI_pL] | rw [gI_pB] | rw [gI_pR]))
      rw [x5, hh]
      rfl
    · (repeat (first | rw [gI_same] | rw [gI_other _ _ (by omega)] | rw [gI_pL] | rw [gI_pB] | rw [gI_pR]))
      rw [x6, hmm]
      exact Int32.add_zero _
  · rcases x4 with ⟨y1, y2, y3, y4⟩ | ⟨y1, y2⟩
    · rw [el_yes (j := e) n 0 (-1) (by omega) (by omega) (by simp [y3]) (fun z g1 g2 g3 => hu z e (by omega) y1 (by simp at g3; rw [g3, y3])), if_neg (nI_pos (by omega)), if_pos (inb_nI he6 (by omega)), tx_nI (show e < 2 ^ 31 by omega), if_neg y4, mf_J103 he6]
      refine mf_fin hB hP hs ht hc hq ha he6 _ false (((eqC.rf _ M).I _ (by simp)).I _ (by simp)) (by (repeat (first | rw [gI_same] | rw [gI_other _ _ (by omega)] | rw [gI_pL] | rw [gI_pB] | rw [gI_pR])); rw [y2]; exact hn2) ?_ ?_ (fun _ => x3) (fun z => by cases z)
      · (repeat (first | rw [gI_same] | rw [gI_other _ _ (by omega)] | rw [gI_pL] | rw [gI_pB] | rw [gI_pR]))
        rw [x1, hh]
        exact Int32.add_zero _
      · (repeat (first | rw [gI_same] | rw [gI_other _ _ (by omega)] | rw [gI_pL] | rw [gI_pB] | rw [gI_pR]))
        rw [x2, hmm]
        rfl
    · rw [el_no n 0 (-1) (fun j _ g2 => by simp [y1 j (by omega)]), if_pos (by decide), mf_new hn hn2]
      have hee : (if n < 6 then n else am (gI M 29) n 0 0) = e ∧ (if n < 6 then n + 1 else n) = n' := by
        rcases y2 with ⟨z1, z2, z3⟩ | ⟨z1, z2, z3⟩
        · rw [if_pos z1, if_pos z1]
          exact ⟨z2.symm, z3.symm⟩
        · rw [if_neg (by omega), if_neg (by omega), z1, z2, z3]
          exact ⟨rfl, rfl⟩
      rw [hee.1, hee.2]
      refine mf_fin hB hP hs ht hc hq ha he6 _ false ((((eqC.rf _ M).I _ (by simp)).I _ (by simp)).I _ (by simp)) (by (repeat (first | rw [gI_same] | rw [gI_other _ _ (by omega)] | rw [gI_pL] | rw [gI_pB] | rw [gI_pR]))) ?_ ?_ (fun _ => x3) (fun z => by cases z)
      · (repeat (first | rw [gI_same] | rw [gI_other _ _ (by omega)] | rw [gI_pL] | rw [gI_pB] | rw [gI_pR]))
        rw [x1, hh]
        exact Int32.add_zero _
      · (repeat (first | rw [gI_same] | rw [gI_other _ _ (by omega)] | rw [gI_pL] | rw [gI_pB] | rw [gI_pR]))
        rw [x2, hmm]
        rfl
end IM
