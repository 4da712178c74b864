section LD1
theorem cl_e (d : Nat) (S : CS) : cPolicy_clear d S = cPolicy_clear_L39 d 600 0 (pI (pI (pI (pI (pI S (d + 1) 1 0) (d + 3) 1 0) (d + 5) 1 0) (d + 7) 1 0) d 8 0) := by
  unfold cPolicy_clear
  rw [bd, bd, bd, bd, bd]
end LD1
section LD1
theorem cl_q (d : Nat) (S : CS) : eqC (fun k _ => ¬ (d ≤ k ∧ k < d + 21)) S (pI (pI (pI (pI (pI S (d + 1) 1 0) (d + 3) 1 0) (d + 5) 1 0) (d + 7) 1 0) d 8 0) := (((((eqC.rf _ _).I _ (by omega)).I _ (by omega)).I _ (by omega)).I _ (by omega)).I _ (by omega)
end LD1
