section NXT
variable {M : MS} {tx : Nat → Nat} {len : Nat}
theorem pI_pI (S : CS) (k j : Nat) (v w : Int32) : pI (pI S k j v) k j w = pI S k j w := by
  unfold pI va_up
  refine Prod.ext ?_ rfl
  funext a b
  by_cases h : a = k
  · subst h
    by_cases h2 : b = j
    · subst h2; simp
    · simp [h2]
  · simp [h]
def TxM (tx : Nat → Nat) (len : Nat) (M : MS) : Prop := len ≤ 480 ∧ gI M 0 2 = nI len ∧ ∀ j, j < len → gI M 1 j = nI (tx j) ∧ 32 ≤ tx j ∧ tx j ≤ 126
def yTk (k j : Nat) : Prop := ¬ (k = 0 ∧ ((3 ≤ j ∧ j ≤ 8) ∨ j = 11))
theorem TxM.fr {T : MS} (h : TxM tx len M) (hf : eqC yTk M T) : TxM tx len T := ⟨h.1, (hf 0 2 (by simp [yTk])).1.trans h.2.1, fun j hj => by rw [(hf 1 j (by simp [yTk])).1]; exact h.2.2 j hj⟩
theorem nx_sk : ∀ r p, len - p = r → p ≤ len → ∀ (T : MS) f, r < f → TxM tx len T → gI T 0 4 = nI p → m_next_L8 f T = m_next_J46 (pI T 0 4 (nI (skp tx len r p))) := by
  intro r
  induction r with
  | zero =>
    intro p hp hpl T f hf hT e
    obtain ⟨f, rfl⟩ := Nat.exists_eq_add_of_lt hf
    have hlen := hT.1
    rw [m_next_L8, hT.2.1, e, if_pos (nI_le (by omega) (by omega)), skp, ← e, pI_id]
  | succ r ih =>
    intro p hp hpl T f hf hT e
    obtain ⟨f, rfl⟩ := Nat.exists_eq_add_of_lt hf
    have hlen := hT.1
    have hch := hT.2.2 p (by omega)
    rw [m_next_L8, hT.2.1, e, if_neg (nI_ge (by omega) (by omega)), if_pos (inb_nI (by omega) (by omega)), tx_nI (show p < 2 ^ 31 by omega), hch.1, skp]
    by_cases hc : tx p = 32
    · rw [if_pos (show nI (tx p) = 32 by rw [hc]; rfl), if_pos ⟨by omega, hc⟩]
      simp only [bd, nI_1]
      have hf1 : eqC yTk T (pI T 0 4 (nI (p + 1))) := (eqC.rf _ T).I _ (by simp [yTk])
      rw [ih (p + 1) (by omega) (by omega) _ (r + 1 + f) (by omega) (hT.fr hf1) (gI_same _ _ _ _), pI_pI]
    · rw [if_neg (show ¬ nI (tx p) = 32 from fun z => hc ((nI_eq (b := 32) (by omega) (by omega)).mp z)), if_neg (fun z => hc z.2), ← e, pI_id]
theorem cd6 : ∀ c, c < 127 → isP c = true → (if isL c = true then nI c - 96 else if nI c = 95 then 37 else nI c - 21) = nI (c6 c) := by decide +kernel
theorem nx_rn {q0 : Nat} : ∀ r q, len - q = r → q ≤ len → ∀ (w : List Nat) (T : MS) f, r < f → TxM tx len T → gI T 0 4 = nI q → q = q0 + w.length → (∀ c ∈ w, ptc c) → (w.length ≤ 9 → gL T 0 11 = lN (q6 w)) → ∃ T' : MS, m_next_L98 f T = m_next_J189 T' ∧ gI T' 0 4 = nI (rnE tx len r q) ∧ ((rnW tx len r q w).length ≤ 9 → gL T' 0 11 = lN (q6 (rnW tx len r q w))) ∧ rnE tx len r q = q0 + (rnW tx len r q w).length ∧ (∀ c ∈ rnW tx len r q w, ptc c) ∧ eqC (fun k j => ¬ (k = 0 ∧ (j = 4 ∨ j = 11))) T T' := by
  intro r
  induction r with
  | zero =>
    intro q hq hql w T f hf hT e h1 h2 h3
    obtain ⟨f, rfl⟩ := Nat.exists_eq_add_of_lt hf
    have hlen := hT.1
    refine ⟨T, ?_, e, h3, h1, h2, eqC.rf _ _⟩
    rw [m_next_L98, hT.2.1, e, if_pos (nI_le (by omega) (by omega))]
  | succ r ih =>
    intro q hq hql w T f hf hT e h1 h2 h3
    obtain ⟨f, rfl⟩ := Nat.exists_eq_add_of_lt hf
    have hlen := hT.1
    have hch := hT.2.2 q (by omega)
    have i4 : inbd (nI q) 480 = true := inb_nI (by omega) (by omega)
    rw [m_next_L98, hT.2.1, e, if_neg (nI_ge (by omega) (by omega)), if_pos i4, tx_nI (show q < 2 ^ 31 by omega), hch.1, pa_m (tx q) (by omega), Option.bind_some, rnE, rnW]
    by_cases hc : isP (tx q) = true
    · have hp := isP_c hc
      have hc6 := c6_lt hp
      rw [if_pos hc, if_pos i4, if_pos ⟨by omega, hc⟩, if_pos ⟨by omega, hc⟩]
      simp only [bd]
      rw [le_m (tx q) (by omega), Option.bind_some]
      have hj : ∀ x : Int32, x = nI (c6 (tx q)) → m_next_J171 (m_next_L98 (r + 1 + f)) x (lSh (gL T 0 11) 6) T = m_next_L98 (r + 1 + f) (pI (pL T 0 11 ((lSh (gL T 0 11) 6) ||| (nI (c6 (tx q))).toInt64)) 0 4 (nI (q + 1))) := by
        intro x hx
        unfold m_next_J171
        simp only [bd, hx, gI_pL, e, nI_1]
      have hall : (if isL (tx q) = true then m_next_J171 (m_next_L98 (r + 1 + f)) (nI (tx q) - 96) (lSh (gL T 0 11) 6) T else (if nI (tx q) = 95 then m_next_J171 (m_next_L98 (r + 1 + f)) 37 (lSh (gL T 0 11) 6) T else m_next_J171 (m_next_L98 (r + 1 + f)) (nI (tx q) - 21) (lSh (gL T 0 11) 6) T)) = m_next_L98 (r + 1 + f) (pI (pL T 0 11 ((lSh (gL T 0 11) 6) ||| (nI (c6 (tx q))).toInt64)) 0 4 (nI (q + 1))) := by
        have hcd := cd6 (tx q) (by omega) hc
        by_cases g1 : isL (tx q) = true
        · rw [if_pos g1] at hcd ⊢
          exact hj _ hcd
        · rw [if_neg g1] at hcd ⊢
          by_cases g2 : nI (tx q) = 95
          · rw [if_pos g2] at hcd ⊢
            exact hj _ hcd
          · rw [if_neg g2] at hcd ⊢
            exact hj _ hcd
      rw [hall]
      have hf1 : eqC (fun k j => ¬ (k = 0 ∧ (j = 4 ∨ j = 11))) T (pI (pL T 0 11 ((lSh (gL T 0 11) 6) ||| (nI (c6 (tx q))).toInt64)) 0 4 (nI (q + 1))) := ((eqC.rf _ T).L _ (by simp)).I _ (by simp)
      obtain ⟨T', y1, y2, y3, y4, y5, y6⟩ := ih (q + 1) (by omega) (by omega) (tx q :: w) _ (r + 1 + f) (by omega) (hT.fr (hf1.mono (fun k j h => by simp only [yTk] at h; omega))) (gI_same _ _ _ _) (by simp only [List.length_cons]; omega) (fun c hcm => by
        rcases List.mem_cons.mp hcm with h | h
        · rw [h]; exact hp
        · exact h2 c h) (fun hl => by
          simp only [List.length_cons] at hl
          rw [gL_pI, gL_same, h3 (by omega), pk6 (q6_48 h2 (by omega)) hc6.2, q6])
      exact ⟨T', y1, y2, y3, y4, y5, hf1.tr y6⟩
    · rw [if_neg hc, if_neg (fun z => hc z.2), if_neg (fun z => hc z.2)]
      exact ⟨T, rfl, e, h3, h1, h2, eqC.rf _ _⟩
/-- the reference looks at token t -/
def Cur (M : MS) (t : Tk) : Prop := gI M 0 3 = nI t.2.1 ∧ gI M 0 4 = nI t.2.2.1 ∧ (t.1 = 32 → gI M 0 5 = 0) ∧ (t.1 = 97 → gI M 0 5 = 1 ∧ gL M 0 11 = t.2.2.2.2 ∧ NR t.2.2.2.1 t.2.2.2.2) ∧ (t.1 ≠ 32 → t.1 ≠ 97 → gI M 0 5 = 2 ∧ gI M 0 6 = nI t.1)
theorem fail_0 {k : Int32} (h : gI M 0 7 = 0) : m_fail k M = some (pI (pI M 0 8 (gI M 0 3)) 0 7 k) := by
  unfold m_fail m_fail_J15
  simp only [h, if_true, bd]
  rw [if_pos (by (repeat (first | rw [gI_same] | rw [gI_other _ _ (by omega)] | rw [gI_pL] | rw [gI_pB] | rw [gI_pR])); exact h)]
theorem fail_1 {k : Int32} (h : ¬ gI M 0 7 = 0) : m_fail k M = some M := by
  unfold m_fail m_fail_J15
  rw [if_neg h, if_neg h]
end NXT

section NX2
variable {M : MS} {tx : Nat → Nat} {len : Nat}
theorem sg_if {α : Type} {c : Nat} (hc : c < 127) (x y : α) : (if nI c = 123 then x else (if nI c = 125 then x else (if nI c = 58 then x else (if nI c = 59 then x else (if nI c = 44 then x else (if nI c = 126 then x else (if nI c = 42 then x else (if nI c = 45 then x else y)))))))) = if isG c = true then x else y := by
  have hn : ∀ k : Nat, k < 127 → nI c = nI k → c = k := fun k hk z => (nI_eq (by omega) (by omega)).mp z
  by_cases hG : isG c = true
  · rw [if_pos hG]
    unfold isG at hG
    simp only [Bool.or_eq_true, decide_eq_true_eq] at hG
    rcases hG with ((((((rfl | rfl) | rfl) | rfl) | rfl) | rfl) | rfl) | rfl <;> rfl
  · rw [if_neg hG]
    have f : ∀ k : Nat, k < 127 → isG k = true → ¬ nI c = nI k := fun k hk hg z => hG (by rw [hn k hk z]; exact hg)
    rw [if_neg (show ¬ nI c = 123 from f 123 (by omega) rfl), if_neg (show ¬ nI c = 125 from f 125 (by omega) rfl), if_neg (show ¬ nI c = 58 from f 58 (by omega) rfl), if_neg (show ¬ nI c = 59 from f 59 (by omega) rfl), if_neg (show ¬ nI c = 44 from f 44 (by omega) rfl), if_neg (show ¬ nI c = 126 from f 126 (by omega) rfl), if_neg (show ¬ nI c = 42 from f 42 (by omega) rfl), if_neg (show ¬ nI c = 45 from f 45 (by omega) rfl)]
theorem isG_ne : ∀ c, c < 127 → isG c = true → c ≠ 32 ∧ c ≠ 97 ∧ c ≠ 63 := by decide +kernel
theorem nx_eq {p : Nat} (hT : TxM tx len M) (hb : gI M 0 7 = 0) (hp : p ≤ len) (e : gI M 0 4 = nI p) : ∃ M', m_next M = some M' ∧ eqC yTk M M' ∧ (((lexT tx len p).1 ≠ 63 ∧ gI M' 0 7 = 0 ∧ Cur M' (lexT tx len p)) ∨ ((lexT tx len p).1 = 63 ∧ gI M' 0 7 = 1 ∧ gI M' 0 8 = nI (lexT tx len p).2.1)) := by
  have hlen := hT.1
  unfold m_next
  rw [if_pos hb, nx_sk (len - p) p rfl hp M 600 (by omega) hT e]
  have hq := skp_le tx len (len - p) p hp
  unfold lexT
  generalize skp tx len (len - p) p = q at hq ⊢
  unfold m_next_J46
  simp only [bd, gI_same]
  generalize hS : pL (pI (pI (pI (pI M 0 4 (nI q)) 0 3 (nI q)) 0 5 0) 0 6 0) 0 11 0 = T
  have fT : eqC yTk M T := by
    rw [← hS]
    exact (((((eqC.rf _ M).I _ (by simp [yTk])).I _ (by simp [yTk])).I _ (by simp [yTk])).I _ (by simp [yTk])).L _ (by simp [yTk])
  have hTT := hT.fr fT
  have t3 : gI T 0 3 = nI q := by rw [← hS]; (repeat (first | rw [gI_same] | rw [gI_other _ _ (by omega)] | rw [gI_pL] | rw [gI_pB] | rw [gI_pR]))
  have t4 : gI T 0 4 = nI q := by rw [← hS]; (repeat (first | rw [gI_same] | rw [gI_other _ _ (by omega)] | rw [gI_pL] | rw [gI_pB] | rw [gI_pR]))
  have t5 : gI T 0 5 = 0 := by rw [← hS]; (repeat (first | rw [gI_same] | rw [gI_other _ _ (by omega)] | rw [gI_pL] | rw [gI_pB] | rw [gI_pR]))
  have t7 : gI T 0 7 = 0 := by rw [← hS]; (repeat (first | rw [gI_same] | rw [gI_other _ _ (by omega)] | rw [gI_pL] | rw [gI_pB] | rw [gI_pR])); exact hb
  have t11 : gL T 0 11 = lN (q6 []) := by rw [← hS, gL_same]; rfl
  rw [t3, hTT.2.1]
  by_cases hql : q < len
  · have hch := hTT.2.2 q hql
    rw [if_neg (fun z => by have := (nI_eq (by omega) (by omega)).mp z; omega), if_pos (inb_nI (show q < 480 by omega) (by omega)), tx_nI (show q < 2 ^ 31 by omega), hch.1, le_m (tx q) (by omega), Option.bind_some]
    by_cases hl : isL (tx q) = true
    · rw [if_pos hl]
      have hA : tkA tx len q = (wS (rnW tx len (len - q) q []), q, rnE tx len (len - q) q, w7 (rnW tx len (len - q) q []), w6 (rnW tx len (len - q) q [])) := by
        unfold tkA
        rw [if_pos hql, if_pos hl]
      obtain ⟨T', y1, y2, y3, y4, y5, y6⟩ := nx_rn (q0 := q) (len - q) q rfl (by omega) [] T 600 (by omega) hTT t4 (by simp) (fun c hc => (List.not_mem_nil hc).elim) (fun _ => t11)
      have hpos := rnE_pos hql hl
      have hle := rnE_le tx len (len - q) q (by omega)
      rw [y1, hA]
      generalize rnE tx len (len - q) q = e1 at y2 y4 hpos hle ⊢
      generalize rnW tx len (len - q) q [] = w at y3 y4 y5 ⊢
      have u3 : gI T' 0 3 = nI q := (y6 0 3 (by simp)).1.trans t3
      have u7 : gI T' 0 7 = 0 := (y6 0 7 (by simp)).1.trans t7
      have fT' : eqC yTk M T' := fT.tr (y6.mono (fun k j h => by simp only [yTk] at h; omega))
      have hd : nI e1 - nI q = nI w.length := by rw [y4, Nat.add_comm, ← nI_add, Int32.add_sub_cancel]
      unfold m_next_J189
      simp only [bd]
      rw [show gI (pI T' 0 5 1) 0 4 = nI e1 by (repeat (first | rw [gI_same] | rw [gI_other _ _ (by omega)] | rw [gI_pL] | rw [gI_pB] | rw [gI_pR])); exact y2, show gI (pI T' 0 5 1) 0 3 = nI q by (repeat (first | rw [gI_same] | rw [gI_other _ _ (by omega)] | rw [gI_pL] | rw [gI_pB] | rw [gI_pR])); exact u3, hd]
      by_cases h9 : w.length ≤ 9
      · rw [if_pos (show nI w.length ≤ 9 from nI_le (b := 9) h9 (by omega))]
        refine ⟨_, rfl, fT'.I _ (by simp [yTk]), Or.inl ⟨?_, ?_, ?_, ?_, ?_, ?_, ?_⟩⟩
        · show wS w ≠ 63
          rw [wS, if_pos h9]; omega
        · (repeat (first | rw [gI_same] | rw [gI_other _ _ (by omega)] | rw [gI_pL] | rw [gI_pB] | rw [gI_pR])); exact u7
        · (repeat (first | rw [gI_same] | rw [gI_other _ _ (by omega)] | rw [gI_pL] | rw [gI_pB] | rw [gI_pR])); exact u3
        · (repeat (first | rw [gI_same] | rw [gI_other _ _ (by omega)] | rw [gI_pL] | rw [gI_pB] | rw [gI_pR])); exact y2
        · intro z
          have z : wS w = 32 := z
          rw [wS, if_pos h9] at z; omega
        · intro _
          refine ⟨by (repeat (first | rw [gI_same] | rw [gI_other _ _ (by omega)] | rw [gI_pL] | rw [gI_pB] | rw [gI_pR])), ?_, ?_⟩
          · show gL (pI T' 0 5 1) 0 11 = w6 w
            rw [gL_pI, y3 h9, w6, if_pos h9]
          · show NR (w7 w) (w6 w)
            rw [w7, w6, if_pos h9, if_pos h9]
            exact ⟨w, fun z => by rw [z] at y4; simp at y4; omega, h9, y5, rfl, rfl⟩
        · intro _ z
          exact absurd (show wS w = 97 by rw [wS, if_pos h9]) z
      · rw [if_neg (show ¬ nI w.length ≤ 9 from nI_ge (a := 9) (by omega) (by omega)), fail_0 (by (repeat (first | rw [gI_same] | rw [gI_other _ _ (by omega)] | rw [gI_pL] | rw [gI_pB] | rw [gI_pR])); exact u7), Option.bind_some]
        refine ⟨_, rfl, ((fT'.I _ (by simp [yTk])).I _ (by simp [yTk])).I _ (by simp [yTk]), Or.inr ⟨?_, ?_, ?_⟩⟩
        · show wS w = 63
          rw [wS, if_neg h9]
        · (repeat (first | rw [gI_same] | rw [gI_other _ _ (by omega)] | rw [gI_pL] | rw [gI_pB] | rw [gI_pR]))
        · show _ = nI q
          (repeat (first | rw [gI_same] | rw [gI_other _ _ (by omega)] | rw [gI_pL] | rw [gI_pB] | rw [gI_pR]))
          exact u3
    · have hA : tkA tx len q = ((if isG (tx q) = true then tx q else 63), q, q + 1, 0, 0) := by
        unfold tkA
        rw [if_pos hql, if_neg hl]
      rw [if_neg hl, hA]
      unfold m_next_J262
      rw [sg_if (show tx q < 127 by omega)]
      have r4 : ∀ x y, gI (pI (pI T 0 5 x) 0 6 y) 0 4 = nI q := fun x y => by (repeat (first | rw [gI_same] | rw [gI_other _ _ (by omega)] | rw [gI_pL] | rw [gI_pB] | rw [gI_pR])); exact t4
      unfold m_next_J267
      simp only [bd, r4, nI_1]
      by_cases hG : isG (tx q) = true
      · rw [if_pos hG, if_pos trivial, if_pos hG]
        have hne := isG_ne (tx q) (by omega) hG
        refine ⟨_, rfl, ((fT.I _ (by simp [yTk])).I _ (by simp [yTk])).I _ (by simp [yTk]), Or.inl ⟨hne.2.2, ?_, ?_, ?_, fun z => absurd z hne.1, fun z => absurd z hne.2.1, fun _ _ => ⟨?_, ?_⟩⟩⟩
        · (repeat (first | rw [gI_same] | rw [gI_other _ _ (by omega)] | rw [gI_pL] | rw [gI_pB] | rw [gI_pR])); exact t7
        · (repeat (first | rw [gI_same] | rw [gI_other _ _ (by omega)] | rw [gI_pL] | rw [gI_pB] | rw [gI_pR])); exact t3
        · (repeat (first | rw [gI_same] | rw [gI_other _ _ (by omega)] | rw [gI_pL] | rw [gI_pB] | rw [gI_pR]))
        · (repeat (first | rw [gI_same] | rw [gI_other _ _ (by omega)] | rw [gI_pL] | rw [gI_pB] | rw [gI_pR]))
        · (repeat (first | rw [gI_same] | rw [gI_other _ _ (by omega)] | rw [gI_pL] | rw [gI_pB] | rw [gI_pR]))
      · rw [if_neg hG, if_neg (by simp), if_neg hG, fail_0 (by (repeat (first | rw [gI_same] | rw [gI_other _ _ (by omega)] | rw [gI_pL] | rw [gI_pB] | rw [gI_pR])); exact t7), Option.bind_some]
        refine ⟨_, rfl, ((((fT.I _ (by simp [yTk])).I _ (by simp [yTk])).I _ (by simp [yTk])).I _ (by simp [yTk])).I _ (by simp [yTk]), Or.inr ⟨rfl, ?_, ?_⟩⟩
        · (repeat (first | rw [gI_same] | rw [gI_other _ _ (by omega)] | rw [gI_pL] | rw [gI_pB] | rw [gI_pR]))
        · (repeat (first | rw [gI_same] | rw [gI_other _ _ (by omega)] | rw [gI_pL] | rw [gI_pB] | rw [gI_pR])); exact t3
  · have hqe : q = len := by omega
    subst hqe
    have hA : tkA tx q q = (32, q, q, 0, 0) := by
      unfold tkA
      rw [if_neg hql]
    rw [if_pos rfl, hA]
    exact ⟨T, rfl, fT, Or.inl ⟨by show (32 : Nat) ≠ 63; omega, t7, t3, t4, fun _ => t5, fun z => by have z : (32 : Nat) = 97 := z; omega, fun z => absurd rfl z⟩⟩
end NX2
