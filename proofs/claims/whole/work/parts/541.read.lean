/-! the words -/
def mCL : List Int64 := [0, 53482707, 370829775426821, 5346309, 586700, 19973079, 22299220, 2184392, 236282194, 3470725, 582, 1361093, 5317957, 100975813, 5001990]
def mC (w : Nat) : Int64 := mCL.getD w 0
def wlL : List (List Nat) := [[], [115, 115, 97, 108, 99], [101, 116, 117, 98, 105, 114, 116, 116, 97], [101, 112, 121, 116], [108, 111, 111, 98], [119, 111, 108, 108, 97], [116, 105, 100, 117, 97], [104, 115, 117, 104], [114, 101, 118, 101, 110], [101, 118, 111, 109], [102, 105], [101, 115, 108, 101], [101, 117, 114, 116], [101, 115, 108, 97, 102], [102, 108, 101, 115]]
theorem nrw : ∀ v, 0 < v → v < 15 → NR (wC v) (mC v) := by
  have h : ∀ v, v < 15 → 0 < v → (wlL.getD v []) ≠ [] ∧ (wlL.getD v []).length ≤ 9 ∧ (∀ c ∈ wlL.getD v [], isP c = true) ∧ wC v = lN (q7 (wlL.getD v [])) ∧ mC v = lN (q6 (wlL.getD v [])) := by decide +kernel
  intro v h1 h2
  obtain ⟨a1, a2, a3, a4, a5⟩ := h v h2 h1
  exact ⟨_, a1, a2, fun c hc => isP_c (a3 c hc), a4, a5⟩
theorem wo_run {x : Int64} : ∀ q i, i + q = 15 → ∀ f, q < f → ∃ w, cWord_of_L10 x 15 f (nI i) = some w ∧ w < 15 ∧ ((w = 0 ∧ ∀ v, i ≤ v → v < 15 → x ≠ wC v) ∨ (i ≤ w ∧ x = wC w)) := by
  intro q
  induction q with
  | zero =>
    intro i hi f hf
    obtain ⟨f, rfl⟩ := Nat.exists_eq_add_of_lt hf
    refine ⟨0, ?_, by omega, Or.inl ⟨rfl, fun v g1 g2 => by omega⟩⟩
    rw [Nat.zero_add, cWord_of_L10, if_pos (show (15 : Int32) ≤ nI i from nI_le (a := 15) (by omega) (by omega))]
  | succ q ih =>
    intro i hi f hf
    obtain ⟨f, rfl⟩ := Nat.exists_eq_add_of_lt hf
    rw [cWord_of_L10, if_neg (show ¬ (15 : Int32) ≤ nI i from nI_ge (b := 15) (by omega) (by omega)), if_pos (inb_nI (show i < 15 by omega) (by omega)), tx_nI (show i < 2 ^ 31 by omega)]
    simp only [bd, nI_1]
    by_cases e : wC i = x
    · rw [if_pos e]
      exact ⟨i, rfl, by omega, Or.inr ⟨Nat.le_refl _, e.symm⟩⟩
    · rw [if_neg e]
      obtain ⟨w, g1, g2, g3⟩ := ih (i + 1) (by omega) (q + 1 + f) (by omega)
      refine ⟨w, g1, g2, ?_⟩
      rcases g3 with ⟨g3, g4⟩ | ⟨g3, g4⟩
      · refine Or.inl ⟨g3, fun v h1 h2 => ?_⟩
        by_cases hv : v = i
        · rw [hv]; exact fun z => e z.symm
        · exact g4 v (by omega) h2
      · exact Or.inr ⟨by omega, g4⟩
theorem wo_c (x : Int64) : ∃ w, cWord_of x = some w ∧ w < 15 ∧ ((w = 0 ∧ ∀ v, 0 < v → v < 15 → x ≠ wC v) ∨ (0 < w ∧ x = wC w)) := by
  obtain ⟨w, g1, g2, g3⟩ := wo_run (x := x) 15 0 (by omega) 600 (by omega)
  refine ⟨w, g1, g2, ?_⟩
  rcases g3 with ⟨g3, g4⟩ | ⟨-, g4⟩
  · exact Or.inl ⟨g3, fun v _ h2 => g4 v (by omega) h2⟩
  · by_cases hw : w = 0
    · refine Or.inl ⟨hw, fun v h1 h2 => ?_⟩
      rw [g4, hw]
      have : ∀ v, v < 15 → 0 < v → wC 0 ≠ wC v := by decide +kernel
      exact this v h2 h1
    · exact Or.inr ⟨by omega, g4⟩
theorem wo_0 : cWord_of 0 = some 0 := by
  obtain ⟨w, g1, g2, g3⟩ := wo_c 0
  rcases g3 with ⟨g3, -⟩ | ⟨g3, g4⟩
  · rw [g1, g3]
  · have : ∀ v, v < 15 → 0 < v → (0 : Int64) ≠ wC v := by decide +kernel
    exact absurd g4 (this w g2 g3)
/-- a name: its word in the class and what the reference says of it -/
theorem wo_m {x y : Int64} (h : NR x y) : ∃ w, cWord_of x = some w ∧ w < 15 ∧ ((w = 0 ∧ (∀ v, 0 < v → v < 15 → x ≠ wC v) ∧ ∀ v, 0 < v → v < 15 → y ≠ mC v) ∨ (0 < w ∧ x = wC w ∧ y = mC w)) := by
  obtain ⟨w, g1, g2, g3⟩ := wo_c x
  refine ⟨w, g1, g2, ?_⟩
  rcases g3 with ⟨g3, g4⟩ | ⟨g3, g4⟩
  · exact Or.inl ⟨g3, g4, fun v h1 h2 z => g4 v h1 h2 ((h.eq (nrw v h1 h2)).mpr z)⟩
  · exact Or.inr ⟨g3, g4, (h.eq (nrw w g3 g2)).mp g4⟩
theorem isw_0 {y : Int64} (h : ∀ v, 0 < v → v < 15 → y ≠ mC v) : m_isWord y = some false := by
  have f : ∀ v, 0 < v → v < 15 → ∀ c, mC v = c → ¬ y = c := fun v h1 h2 c hc z => h v h1 h2 (z.trans hc.symm)
  unfold m_isWord m_isWord_J69
  rw [if_neg (f 2 (by omega) (by omega) 370829775426821 rfl), if_neg (f 1 (by omega) (by omega) 53482707 rfl), if_neg (f 3 (by omega) (by omega) 5346309 rfl), if_neg (f 4 (by omega) (by omega) 586700 rfl), if_neg (f 5 (by omega) (by omega) 19973079 rfl), if_neg (f 6 (by omega) (by omega) 22299220 rfl), if_neg (f 7 (by omega) (by omega) 2184392 rfl), if_neg (f 8 (by omega) (by omega) 236282194 rfl), if_neg Bool.false_ne_true, if_neg (f 9 (by omega) (by omega) 3470725 rfl), if_neg (f 10 (by omega) (by omega) 582 rfl), if_neg (f 11 (by omega) (by omega) 1361093 rfl), if_neg (f 12 (by omega) (by omega) 5317957 rfl), if_neg (f 13 (by omega) (by omega) 100975813 rfl), if_neg (f 14 (by omega) (by omega) 5001990 rfl)]
theorem isw_1 : ∀ w, w < 15 → 0 < w → m_isWord (mC w) = some true := by decide +kernel
theorem rk_0 {y : Int64} (h : ∀ v, 0 < v → v < 15 → y ≠ mC v) : m_ruleKind y = some (-1) := by
  have f : ∀ v, 0 < v → v < 15 → ∀ c, mC v = c → ¬ y = c := fun v h1 h2 c hc z => h v h1 h2 (z.trans hc.symm)
  unfold m_ruleKind
  rw [if_neg (f 5 (by omega) (by omega) 19973079 rfl), if_neg (f 6 (by omega) (by omega) 22299220 rfl), if_neg (f 7 (by omega) (by omega) 2184392 rfl), if_neg (f 8 (by omega) (by omega) 236282194 rfl), if_neg (f 9 (by omega) (by omega) 3470725 rfl)]
theorem rk_1 : ∀ w, w < 15 → 0 < w → m_ruleKind (mC w) = some (if 5 ≤ w ∧ w ≤ 9 then nI (w - 5) else -1) := by decide +kernel
