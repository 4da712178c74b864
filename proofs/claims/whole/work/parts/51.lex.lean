section SC2
variable {S S' : CS} {tx : Nat → Nat} {len : Nat}
theorem TxC.fr {T : CS} (h : TxC tx len S) (hf : eqC xTk S T) : TxC tx len T := ⟨h.1, fun j hj => by rw [(hf 1 j (by simp [xTk])).1]; exact h.2 j hj⟩
/-- what the scan leaves: N tokens, the last of them the end -/
def ScE (tx : Nat → Nat) (len : Nat) (S T : CS) (N : Nat) : Prop := 0 < N ∧ N ≤ 481 ∧ gI T 3 3 = nI N ∧ TA tx len T N ∧ (∀ j, j + 1 < N → (tks tx len j).1 ≠ 32) ∧ (tks tx len (N - 1)).1 = 32 ∧ eqC xTk S T
theorem tk_ne {c : Nat} (h1 : c ≠ 32) : (if isG c = true then c else 63) ≠ 32 := by
  split
  · exact h1
  · omega
theorem wS_ne (w : List Nat) : wS w ≠ 32 ∧ wS w < 65536 := by
  unfold wS
  split <;> omega
theorem sc_run (hT : TxC tx len S) : ∀ r p, len - p = r → p ≤ len → ∀ (N : Nat) (T : CS) (fl : Bool) f, r < f → eqC xTk S T → gI T 3 3 = nI N → TA tx len T N → N ≤ p → lexT tx len p = tks tx len N → (∀ j, j < N → (tks tx len j).1 ≠ 32) → (fl = true → p < len → isP (tx p) = false) →
    ∃ T' N', cTokens_scan_L15 (nI len) f fl (nI p) T = some T' ∧ ScE tx len S T' N' := by
  intro r
  induction r using Nat.strongRecOn with
  | ind r ih =>
    intro p hp hpl N T fl f hf h1 h2 h3 h4 h5 h6 h7
    have hlen := hT.1
    have hTT := hT.fr h1
    obtain ⟨f, rfl⟩ := Nat.exists_eq_add_of_lt hf
    by_cases hpe : p < len
    · have hch := hTT.2 p hpe
      have i4 : inbd (nI p) 480 = true := inb_nI (by omega) (by omega)
      have hJ : cTokens_scan_L15 (nI len) (r + f + 1) fl (nI p) T = cTokens_scan_J57 (cTokens_scan_L15 (nI len) (r + f)) (nI len) (nI p) (nI (tx p)) T := by
        rw [cTokens_scan_L15, if_neg (nI_ge hpe (by omega)), if_neg (show ¬ (480 : Int32) ≤ nI p from nI_ge (b := 480) (by omega) (by omega)), if_pos i4, tx_nI (show p < 2 ^ 31 by omega)]
        simp only [bd, hch.1]
        cases fl with
        | false => simp
        | true => simp only [if_true, pa_c (tx p) (by omega), Option.bind_some, h7 rfl hpe, Bool.false_eq_true, if_false]
      rw [hJ]
      unfold cTokens_scan_J57
      rw [le_c (tx p) (by omega), Option.bind_some]
      by_cases hsp : tx p = 32
      · have e32 : nI (tx p) = 32 := by rw [hsp]; rfl
        simp only [e32, if_true, bd, nI_1]
        rw [hsp]
        exact ih (len - (p + 1)) (by omega) (p + 1) rfl (by omega) N T _ _ (by omega) h1 h2 h3 (by omega) ((skp_sp hpe hsp).symm.trans h5) h6 (fun h => by cases h)
      · have e32 : ¬ nI (tx p) = 32 := fun z => hsp ((nI_eq (b := 32) (by omega) (by omega)).mp z)
        rw [if_neg e32, so_c (tx p) (by omega) hch.2.1, Option.bind_some]
        have hlex : tkA tx len p = tks tx len N := (skp_no (fun z => hsp z.2)).symm.trans h5
        by_cases hl : isL (tx p) = true
        · rw [hl, if_pos rfl, if_pos rfl]
          have hA : tkA tx len p = (wS (rnW tx len (len - p) p []), p, rnE tx len (len - p) p, w7 (rnW tx len (len - p) p []), w6 (rnW tx len (len - p) p [])) := by
            unfold tkA
            rw [if_pos hpe, if_pos hl]
          unfold cTokens_scan_J89
          rw [show (97 : Nat) = 97 from rfl, add_c (srt := 97) (p := p) (x := (nI (tx p)).toInt64) (by omega) h2 (by omega), Option.bind_some]
          simp only [bd, nI_1]
          have hr1 : rnE tx len (len - p) p = rnE tx len (len - (p + 1)) (p + 1) ∧ rnW tx len (len - p) p [] = rnW tx len (len - (p + 1)) (p + 1) [tx p] := by
            rw [show len - p = (len - (p + 1)) + 1 by omega, rnE, rnW, if_pos ⟨hpe, isL_P hl⟩, if_pos ⟨hpe, isL_P hl⟩]
            exact ⟨rfl, rfl⟩
          obtain ⟨a0, a1, a2, a3⟩ := addS_at (S := T) (N := N) (srt := 97) (p := p) (x := (nI (tx p)).toInt64)
          have hq7 : w7 [tx p] = (nI (tx p)).toInt64 := by
            rw [w7, if_pos (by simp), nI_l (by omega)]
            simp [q7]
          obtain ⟨T', f', y1, y2, y3, y4, y5, y6, y7, y8, y9⟩ := sc_rn (S := addS T N 97 p (nI (tx p)).toInt64) (N := N) (p0 := p) (hTT.fr (addS_fr N 97 p _)) (by omega) (len - (p + 1)) (p + 1) rfl (by omega) [tx p] (addS T N 97 p (nI (tx p)).toInt64) (r + f) (by omega) (eqC.rf _ _) a0 a2 (by simp) (fun c hc => by rw [List.mem_singleton.mp hc]; exact isP_c (isL_P hl)) (a1.trans (by simp [wS])) (a3.trans hq7.symm) (fun j _ => ⟨rfl, rfl, rfl⟩)
          rw [y1]
          have hstop := rnE_le tx len (len - (p + 1)) (p + 1) (by omega)
          have hTA : TA tx len T' (N + 1) := by
            intro j hj
            by_cases e : j = N
            · subst e
              rw [← hlex, hA]
              refine ⟨?_, ?_, ?_⟩
              · rw [y6, hr1.2]
              · rw [y5]
              · rw [y7, hr1.2]
            · obtain ⟨b1, b2, b3⟩ := y8 j e
              obtain ⟨c1, c2, c3⟩ := addS_old (S := T) (N := N) (srt := 97) (p := p) (x := (nI (tx p)).toInt64) e
              obtain ⟨d1, d2, d3⟩ := h3 j (by omega)
              exact ⟨(b1.trans c1).trans d1, (b2.trans c2).trans d2, (b3.trans c3).trans d3⟩
          refine ih (len - rnE tx len (len - (p + 1)) (p + 1)) (by omega) _ rfl hstop.2 (N + 1) T' true f' y2 (h1.tr ((addS_fr N 97 p _).tr y3)) y4 hTA (by omega) ?_ (fun j hj => ?_) (fun _ => y9)
          · rw [tks, ← hlex, hA, hr1.1]
          · by_cases e : j = N
            · rw [e, ← hlex, hA]
              exact (wS_ne _).1
            · exact h6 j (by omega)
        · have hlf : isL (tx p) = false := by simpa using hl
          rw [hlf]
          have hA : tkA tx len p = ((if isG (tx p) = true then tx p else 63), p, p + 1, 0, 0) := by
            unfold tkA
            rw [if_pos hpe, if_neg hl]
          unfold cTokens_scan_J89
          simp only [Bool.false_eq_true, if_false]
          rw [add_c (p := p) (x := 0) (by omega) h2 (by split <;> omega), Option.bind_some]
          simp only [bd, nI_1]
          refine ih (len - (p + 1)) (by omega) (p + 1) rfl (by omega) (N + 1) _ _ _ (by omega) (h1.tr (addS_fr N _ p _)) (addS_at).1 (TA_add h3 (by rw [← hlex, hA]) (by rw [← hlex, hA]) (by rw [← hlex, hA])) (by omega) ?_ (fun j hj => ?_) (fun h => by cases h)
          · rw [tks, ← hlex, hA]
          · by_cases e : j = N
            · rw [e, ← hlex, hA]
              exact tk_ne hsp
            · exact h6 j (by omega)
    · have hpe' : p = len := by omega
      subst hpe'
      have hlex : tks tx p N = (32, p, p, 0, 0) := by
        rw [← h5, skp_no (fun z => hpe z.1)]
        unfold tkA
        rw [if_neg hpe]
      rw [cTokens_scan_L15, if_pos (nI_le (Nat.le_refl _) (by omega))]
      unfold cTokens_scan_J98
      rw [show (32 : Int32) = nI 32 from rfl, add_c (srt := 32) (p := p) (x := 0) (by omega) h2 (by omega), Option.bind_some]
      refine ⟨_, N + 1, rfl, by omega, by omega, (addS_at).1, TA_add h3 (by rw [hlex]) (by rw [hlex]) (by rw [hlex]), fun j hj => h6 j (by omega), ?_, h1.tr (addS_fr N 32 p 0)⟩
      rw [Nat.add_sub_cancel, hlex]
theorem scan_eq (hT : TxC tx len S) : ∃ T N, cTokens_scan (nI len) S = some T ∧ gI T 3 4 = 0 ∧ ScE tx len (pI (pI S 3 3 0) 3 4 0) T N := by
  unfold cTokens_scan
  simp only [bd]
  have hT2 : TxC tx len (pI (pI S 3 3 0) 3 4 0) := ⟨hT.1, fun j hj => by (repeat (first | rw [gI_same] | rw [gI_other _ _ (by omega)] | rw [gI_pL] | rw [gI_pB] | rw [gI_pR])); exact hT.2 j hj⟩
  obtain ⟨T, N, e1, e2⟩ := sc_run hT2 len 0 (by omega) (by omega) 0 (pI (pI S 3 3 0) 3 4 0) false 600 (by have := hT.1; omega) (eqC.rf _ _) (by (repeat (first | rw [gI_same] | rw [gI_other _ _ (by omega)] | rw [gI_pL] | rw [gI_pB] | rw [gI_pR])); rfl) (fun j hj => absurd hj (Nat.not_lt_zero _)) (Nat.le_refl _) rfl (fun j hj => absurd hj (Nat.not_lt_zero _)) (fun h => by cases h)
  refine ⟨T, N, e1, ?_, e2⟩
  rw [(e2.2.2.2.2.2.2 3 4 (by simp [xTk])).1]
  (repeat (first | rw [gI_same] | rw [gI_other _ _ (by omega)] | rw [gI_pL] | rw [gI_pB] | rw [gI_pR]))
end SC2
