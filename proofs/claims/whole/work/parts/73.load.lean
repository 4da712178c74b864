/-! load -/
section LD1
variable {S S' : CS} {M M' : MS} {d b β : Nat}
theorem cl_62 : ∀ e c, c + e = 4 → ∀ f, e < f → ∀ S : CS, ∃ S', cPolicy_clear_L62 d f (nI c) S = some S' ∧ eqC (fun k _ => k ≠ d + 10) S S' ∧ (∀ a, a < c → gI S' (d + 10) a = gI S (d + 10) a) ∧ ∀ a, c ≤ a → a < 4 → gI S' (d + 10) a = 0 := by
  intro e
  induction e with
  | zero =>
    intro c hc f hf S
    obtain ⟨f, rfl⟩ := Nat.exists_eq_add_of_lt hf
    exact ⟨S, by rw [Nat.zero_add, cPolicy_clear_L62, if_pos (show (4 : Int32) ≤ nI c from nI_le (a := 4) (by omega) (by omega))], eqC.rf _ _, fun _ _ => rfl, fun a h1 h2 => by omega⟩
  | succ e ih =>
    intro c hc f hf S
    obtain ⟨f, rfl⟩ := Nat.exists_eq_add_of_lt hf
    rw [cPolicy_clear_L62, if_neg (show ¬ (4 : Int32) ≤ nI c from nI_ge (b := 4) (by omega) (by omega)), if_pos (inb_nI (show c < 4 by omega) (by omega)), tx_nI (show c < 2 ^ 31 by omega)]
    simp only [bd]
    rw [nI_1]
    obtain ⟨S', e1, e2, e3, e4⟩ := ih (c + 1) (by omega) (e + 1 + f) (by omega) (pI S (d + 10) c 0)
    refine ⟨S', e1, ((eqC.rf _ _).I _ (fun z => z rfl)).tr e2, fun a h1 => ?_, fun a h1 h2 => ?_⟩
    · rw [e3 a (by omega), gI_other _ _ (by omega)]
    · by_cases ea : a = c
      · subst ea
        rw [e3 a (by omega), gI_same]
      · exact e4 a (by omega) h2
end LD1
