/-! reading: both look at token i -/
abbrev tk (tx : Nat → Nat) (len i : Nat) : Tk := tks tx len i
abbrev TkC (tx : Nat → Nat) (len N : Nat) (S : CS) (i : Nat) : Prop := (gI S 3 3 = nI N) ∧ (gI S 3 4 = nI i) ∧ (i < N) ∧ (N ≤ 481) ∧ (TA tx len S N) ∧ (∀ j, j + 1 < N → (tks tx len j).1 ≠ 32) ∧ ((tks tx len (N - 1)).1 = 32)
theorem TkC.sz {tx : Nat → Nat} {len N : Nat} {S : CS} {i : Nat} (zh : TkC tx len N S i) : gI S 3 3 = nI N := zh.1
theorem TkC.at1 {tx : Nat → Nat} {len N : Nat} {S : CS} {i : Nat} (zh : TkC tx len N S i) : gI S 3 4 = nI i := zh.2.1
theorem TkC.lt {tx : Nat → Nat} {len N : Nat} {S : CS} {i : Nat} (zh : TkC tx len N S i) : i < N := zh.2.2.1
theorem TkC.le {tx : Nat → Nat} {len N : Nat} {S : CS} {i : Nat} (zh : TkC tx len N S i) : N ≤ 481 := zh.2.2.2.1
theorem TkC.ta {tx : Nat → Nat} {len N : Nat} {S : CS} {i : Nat} (zh : TkC tx len N S i) : TA tx len S N := zh.2.2.2.2.1
theorem TkC.ne {tx : Nat → Nat} {len N : Nat} {S : CS} {i : Nat} (zh : TkC tx len N S i) : ∀ j, j + 1 < N → (tks tx len j).1 ≠ 32 := zh.2.2.2.2.2.1
theorem TkC.en {tx : Nat → Nat} {len N : Nat} {S : CS} {i : Nat} (zh : TkC tx len N S i) : (tks tx len (N - 1)).1 = 32 := zh.2.2.2.2.2.2
/-- the reference looks at token i, or has fallen over it -/
def TkM (tx : Nat → Nat) (len : Nat) (M : MS) (i : Nat) : Prop := TxM tx len M ∧ (((tks tx len i).1 ≠ 63 ∧ gI M 0 7 = 0 ∧ Cur M (tks tx len i)) ∨ ((tks tx len i).1 = 63 ∧ gI M 0 7 = 1 ∧ gI M 0 8 = nI (tks tx len i).2.1))
section TKS
variable {tx : Nat → Nat} {len N i : Nat} {S S' : CS} {M M' : MS}
theorem tks_stp : ∀ i, (tks tx len i).2.1 ≤ len ∧ (tks tx len i).2.2.1 ≤ len
  | 0 => by
    have h := skp_le tx len (len - 0) 0 (Nat.zero_le _)
    have h2 := tkA_stp (tx := tx) (len := len) (q := skp tx len (len - 0) 0) h.2
    exact ⟨by show (tkA tx len _).2.1 ≤ len; rw [h2.2.2.1]; exact h.2, h2.2.1⟩
  | i + 1 => by
    have h0 := (tks_stp i).2
    have h := skp_le tx len (len - (tks tx len i).2.2.1) (tks tx len i).2.2.1 h0
    have h2 := tkA_stp (tx := tx) (len := len) (q := skp tx len (len - (tks tx len i).2.2.1) (tks tx len i).2.2.1) h.2
    exact ⟨by show (tkA tx len _).2.1 ≤ len; rw [h2.2.2.1]; exact h.2, h2.2.1⟩
theorem is_c (h : TkC tx len N S i) (c : Nat) (hc : c < 65536) (ht : (tks tx len i).1 < 65536) : cTokens_is (nI c) S = some (decide ((tks tx len i).1 = c)) := by
  unfold cTokens_is
  rw [h.at1, if_pos (inb_nI (show i < 481 by have := h.lt; have := h.le; omega) (by omega)), tx_nI (show i < 2 ^ 31 by have := h.lt; have := h.le; omega), (h.ta i h.lt).1]
  by_cases e : (tks tx len i).1 = c
  · rw [e, if_pos rfl]; simp
  · rw [if_neg (fun z => e ((nI_eq (by omega) (by omega)).mp z))]; simp [e]
theorem nm_tk (h : TkC tx len N S i) : cTokens_name S = some (tks tx len i).2.2.2.1 := by
  unfold cTokens_name
  rw [h.at1, if_pos (inb_nI (show i < 481 by have := h.lt; have := h.le; omega) (by omega)), tx_nI (show i < 2 ^ 31 by have := h.lt; have := h.le; omega), (h.ta i h.lt).2.2]
theorem pl_tk (h : TkC tx len N S i) : cTokens_place S = some (nI (tks tx len i).2.1) := by
  unfold cTokens_place
  rw [h.at1, if_pos (inb_nI (show i < 481 by have := h.lt; have := h.le; omega) (by omega)), tx_nI (show i < 2 ^ 31 by have := h.lt; have := h.le; omega), (h.ta i h.lt).2.1]
theorem TkC.fr (h : TkC tx len N S i) (hf : ∀ k j, (k = 3 ∧ (j = 3 ∨ j = 4)) ∨ (4 ≤ k ∧ k ≤ 6) → gI S' k j = gI S k j ∧ gL S' k j = gL S k j) : TkC tx len N S' i := by
  obtain ⟨h1, h2, h3, h4, h5, h6, h7⟩ := h
  refine ⟨(hf 3 3 (by omega)).1.trans h1, (hf 3 4 (by omega)).1.trans h2, h3, h4, fun j hj => ?_, h6, h7⟩
  obtain ⟨a1, a2, a3⟩ := h5 j hj
  exact ⟨(hf 4 j (by omega)).1.trans a1, (hf 5 j (by omega)).1.trans a2, (hf 6 j (by omega)).2.trans a3⟩
/-- one token on -/
theorem adv_c (h : TkC tx len N S i) (hne : (tks tx len i).1 ≠ 32) : i + 1 < N ∧ cTokens_advance S = some (pI S 3 4 (nI (i + 1))) ∧ TkC tx len N (pI S 3 4 (nI (i + 1))) (i + 1) := by
  have hlt := h.lt
  have hle := h.le
  have h1 : i + 1 < N := by
    rcases Nat.lt_or_ge (i + 1) N with g | g
    · exact g
    · exact absurd (by rw [show i = N - 1 by omega]; exact h.en) hne
  refine ⟨h1, ?_, ?_⟩
  · unfold cTokens_advance
    have hs : nI N - 1 = nI (N - 1) := by rw [show (1 : Int32) = nI 1 from rfl, nI_sub (by omega)]
    rw [h.sz, h.at1, hs, if_neg (nI_ge (by omega) (by omega))]
    simp only [bd, nI_1]
  · obtain ⟨q1, q2, q3, q4, q5, q6, q7⟩ := h
    refine ⟨?_, gI_same _ _ _ _, h1, q4, fun j hj => ?_, q6, q7⟩
    · (repeat (first | rw [gI_same] | rw [gI_other _ _ (by omega)] | rw [gI_pL] | rw [gI_pB] | rw [gI_pR])); exact q1
    · obtain ⟨a1, a2, a3⟩ := q5 j hj
      refine ⟨?_, ?_, a3⟩
      · (repeat (first | rw [gI_same] | rw [gI_other _ _ (by omega)] | rw [gI_pL] | rw [gI_pB] | rw [gI_pR])); exact a1
      · (repeat (first | rw [gI_same] | rw [gI_other _ _ (by omega)] | rw [gI_pL] | rw [gI_pB] | rw [gI_pR])); exact a2
theorem nxt_m (hT : TxM tx len M) (h7 : gI M 0 7 = 0) (hC : Cur M (tks tx len i)) : ∃ M', m_next M = some M' ∧ eqC yTk M M' ∧ TkM tx len M' (i + 1) := by
  obtain ⟨M', e1, e2, e3⟩ := nx_eq hT h7 (tks_stp i).2 hC.2.1
  exact ⟨M', e1, e2, hT.fr e2, e3⟩
end TKS
