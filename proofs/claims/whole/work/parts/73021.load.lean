section LD1
theorem cl_all (d : Nat) (S : CS) : ∃ S', cPolicy_clear d S = some S' ∧ eqC (fun k _ => ¬ (d ≤ k ∧ k < d + 21)) S S' ∧ (∀ w, w < 4 → gI S' (d + 1 + 2 * w) 1 = 0) ∧ gI S' d 8 = 0 ∧ (∀ c, c < 4 → gI S' (d + 13 + 2 * c) 1 = 0) ∧ ∀ a, a < 4 → gI S' (d + 10) a = 0 := by
  rw [cl_e]
  have hq := cl_q d S
  have q1 : gI (pI (pI (pI (pI (pI S (d + 1) 1 0) (d + 3) 1 0) (d + 5) 1 0) (d + 7) 1 0) d 8 0) (d + 1) 1 = 0 := by (repeat (first | rw [gI_same] | rw [gI_other _ _ (by omega)] | rw [gI_pL] | rw [gI_pB] | rw [gI_pR]))
  have q3 : gI (pI (pI (pI (pI (pI S (d + 1) 1 0) (d + 3) 1 0) (d + 5) 1 0) (d + 7) 1 0) d 8 0) (d + 3) 1 = 0 := by (repeat (first | rw [gI_same] | rw [gI_other _ _ (by omega)] | rw [gI_pL] | rw [gI_pB] | rw [gI_pR]))
  have q5 : gI (pI (pI (pI (pI (pI S (d + 1) 1 0) (d + 3) 1 0) (d + 5) 1 0) (d + 7) 1 0) d 8 0) (d + 5) 1 = 0 := by (repeat (first | rw [gI_same] | rw [gI_other _ _ (by omega)] | rw [gI_pL] | rw [gI_pB] | rw [gI_pR]))
  have q7 : gI (pI (pI (pI (pI (pI S (d + 1) 1 0) (d + 3) 1 0) (d + 5) 1 0) (d + 7) 1 0) d 8 0) (d + 7) 1 = 0 := by (repeat (first | rw [gI_same] | rw [gI_other _ _ (by omega)] | rw [gI_pL] | rw [gI_pB] | rw [gI_pR]))
  have q8 : gI (pI (pI (pI (pI (pI S (d + 1) 1 0) (d + 3) 1 0) (d + 5) 1 0) (d + 7) 1 0) d 8 0) d 8 = 0 := gI_same _ _ _ _
  generalize pI (pI (pI (pI (pI S (d + 1) 1 0) (d + 3) 1 0) (d + 5) 1 0) (d + 7) 1 0) d 8 0 = T at hq q1 q3 q5 q7 q8 ⊢
  obtain ⟨T1, a1, a2, -, a4⟩ := cl_39 (d := d) 4 0 (by omega) 600 (by omega) T
  obtain ⟨T2, b1, b2, -, b4⟩ := cl_62 (d := d) 4 0 (by omega) 600 (by omega) T1
  have a1' : cPolicy_clear_L39 d 600 0 T = cPolicy_clear_L62 d 600 0 T1 := a1
  have b1' : cPolicy_clear_L62 d 600 0 T1 = some T2 := b1
  rw [a1', b1']
  have r1 : ∀ k j, k < d + 9 → gI T2 k j = gI T k j := fun k j hk => (b2 k j (show k ≠ d + 10 by omega)).1.trans (a2 k j (show ¬ (d + 13 ≤ k ∧ k < d + 21) by omega)).1
  refine ⟨T2, rfl, ?_, fun w hw => ?_, ?_, fun c hc => ?_, fun a ha => b4 a (by omega) ha⟩
  · intro k j g
    have g' : ¬ (d ≤ k ∧ k < d + 21) := g
    obtain ⟨u1, u2, u3, u4⟩ := hq k j g'
    obtain ⟨v1, v2, v3, v4⟩ := a2 k j (show ¬ (d + 13 ≤ k ∧ k < d + 21) by omega)
    obtain ⟨w1, w2, w3, w4⟩ := b2 k j (show k ≠ d + 10 by omega)
    exact ⟨w1.trans (v1.trans u1), w2.trans (v2.trans u2), w3.trans (v3.trans u3), w4.trans (v4.trans u4)⟩
  · rw [r1 _ _ (by omega)]
    have : w = 0 ∨ w = 1 ∨ w = 2 ∨ w = 3 := by omega
    rcases this with rfl | rfl | rfl | rfl
    · exact q1
    · exact q3
    · exact q5
    · exact q7
  · rw [r1 _ _ (by omega)]
    exact q8
  · rw [(b2 (d + 13 + 2 * c) 1 (show d + 13 + 2 * c ≠ d + 10 by omega)).1]
    exact a4 c (by omega) hc
end LD1
