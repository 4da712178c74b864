section LD1
variable {S S' : CS} {M M' : MS} {d b β : Nat}
theorem l12 (hβ : β ≤ 1) : ∀ e c, c + e = 5 → ∀ f, e < f → ∀ M : MS, gI M 0 12 = nI β → ∃ M', m_load_L12 f (nI c) M = (m_next M').bind (m_load_L41 600) ∧ eqC (fun k j => ¬ (k = 2 ∧ 5 * (1 - β) ≤ j ∧ j < 5 * (1 - β) + 5)) M M' ∧ (∀ w, w < c → gI M' 2 (5 * (1 - β) + w) = gI M 2 (5 * (1 - β) + w)) ∧ ∀ w, c ≤ w → w < 5 → gI M' 2 (5 * (1 - β) + w) = 0 := by
  intro e
  induction e with
  | zero =>
    intro c hc f hf M h
    obtain ⟨f, rfl⟩ := Nat.exists_eq_add_of_lt hf
    exact ⟨M, by rw [Nat.zero_add, m_load_L12, if_pos (show (5 : Int32) ≤ nI c from nI_le (a := 5) (by omega) (by omega))], eqC.rf _ _, fun _ _ => rfl, fun a h1 h2 => by omega⟩
  | succ e ih =>
    intro c hc f hf M h
    obtain ⟨f, rfl⟩ := Nat.exists_eq_add_of_lt hf
    have ho : m_own M = some (nI (1 - β)) := by
      unfold m_own
      rw [h]
      rcases (show β = 0 ∨ β = 1 by omega) with e | e <;> rw [e] <;> rfl
    have hb1 : 1 - β ≤ 1 := by omega
    rw [m_load_L12, if_neg (show ¬ (5 : Int32) ≤ nI c from nI_ge (b := 5) (by omega) (by omega)), ho, Option.bind_some, if_pos (bk5 hb1 (c := c) (by omega)).1, (bk5 hb1 (c := c) (by omega)).2]
    simp only [bd]
    rw [nI_1]
    obtain ⟨M', e1, e2, e3, e4⟩ := ih (c + 1) (by omega) (e + 1 + f) (by omega) (pI M 2 (5 * (1 - β) + c) 0) (by rw [gI_other _ _ (by omega)]; exact h)
    refine ⟨M', e1, ((eqC.rf _ _).I _ (fun z => z ⟨rfl, by omega, by omega⟩)).tr e2, fun a h1 => ?_, fun a h1 h2 => ?_⟩
    · rw [e3 a (by omega), gI_other _ _ (by omega)]
    · by_cases ea : a = c
      · subst ea
        rw [e3 a (by omega), gI_same]
      · exact e4 a (by omega) h2
end LD1
