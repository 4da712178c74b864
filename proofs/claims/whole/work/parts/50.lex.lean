/-! the tokens of a text: sort, place, stop, the name in the class, the name in the reference -/
abbrev Tk : Type := Nat × Nat × Nat × Int64 × Int64
def isL (c : Nat) : Bool := decide (97 ≤ c) && decide (c ≤ 122)
def isP (c : Nat) : Bool := isL c || (decide (48 ≤ c) && decide (c ≤ 57)) || decide (c = 95)
def isG (c : Nat) : Bool := decide (c = 123) || decide (c = 125) || decide (c = 58) || decide (c = 59) || decide (c = 44) || decide (c = 126) || decide (c = 42) || decide (c = 45)
theorem isP_c {c : Nat} (h : isP c = true) : ptc c := by
  unfold isP isL at h
  unfold ptc
  simp only [Bool.or_eq_true, Bool.and_eq_true, decide_eq_true_eq] at h
  omega
theorem isL_P {c : Nat} (h : isL c = true) : isP c = true := by
  unfold isP
  rw [h]
  rfl
def skp (tx : Nat → Nat) (len : Nat) : Nat → Nat → Nat
  | 0, p => p
  | f + 1, p => if p < len ∧ tx p = 32 then skp tx len f (p + 1) else p
def rnE (tx : Nat → Nat) (len : Nat) : Nat → Nat → Nat
  | 0, p => p
  | f + 1, p => if p < len ∧ isP (tx p) = true then rnE tx len f (p + 1) else p
def rnW (tx : Nat → Nat) (len : Nat) : Nat → Nat → List Nat → List Nat
  | 0, _, w => w
  | f + 1, p, w => if p < len ∧ isP (tx p) = true then rnW tx len f (p + 1) (tx p :: w) else w
def wS (w : List Nat) : Nat := if w.length ≤ 9 then 97 else 63
def w7 (w : List Nat) : Int64 := if w.length ≤ 9 then lN (q7 w) else 0
def w6 (w : List Nat) : Int64 := if w.length ≤ 9 then lN (q6 w) else 0
/-- the token that begins at q, no space -/
def tkA (tx : Nat → Nat) (len q : Nat) : Tk := if q < len then (if isL (tx q) = true then (wS (rnW tx len (len - q) q []), q, rnE tx len (len - q) q, w7 (rnW tx len (len - q) q []), w6 (rnW tx len (len - q) q [])) else ((if isG (tx q) = true then tx q else 63), q, q + 1, 0, 0)) else (32, q, q, 0, 0)
def lexT (tx : Nat → Nat) (len p : Nat) : Tk := tkA tx len (skp tx len (len - p) p)
def tks (tx : Nat → Nat) (len : Nat) : Nat → Tk
  | 0 => lexT tx len 0
  | i + 1 => lexT tx len (tks tx len i).2.2.1
theorem skp_sp {tx : Nat → Nat} {len p : Nat} (h : p < len) (hc : tx p = 32) : lexT tx len p = lexT tx len (p + 1) := by
  unfold lexT
  rw [show len - p = (len - (p + 1)) + 1 by omega, skp, if_pos ⟨h, hc⟩]
theorem skp_no {tx : Nat → Nat} {len p : Nat} (hc : ¬ (p < len ∧ tx p = 32)) : lexT tx len p = tkA tx len p := by
  unfold lexT
  cases hl : len - p with
  | zero => rfl
  | succ f => rw [skp, if_neg hc]
theorem skp_le (tx : Nat → Nat) (len : Nat) : ∀ f p, p ≤ len → p ≤ skp tx len f p ∧ skp tx len f p ≤ len
  | 0, p, h => ⟨Nat.le_refl _, h⟩
  | f + 1, p, h => by
    rw [skp]
    by_cases hc : p < len ∧ tx p = 32
    · rw [if_pos hc]
      have := skp_le tx len f (p + 1) (by omega)
      omega
    · rw [if_neg hc]
      omega
theorem rnE_le (tx : Nat → Nat) (len : Nat) : ∀ f p, p ≤ len → p ≤ rnE tx len f p ∧ rnE tx len f p ≤ len
  | 0, p, h => ⟨Nat.le_refl _, h⟩
  | f + 1, p, h => by
    rw [rnE]
    by_cases hc : p < len ∧ isP (tx p) = true
    · rw [if_pos hc]
      have := rnE_le tx len f (p + 1) (by omega)
      omega
    · rw [if_neg hc]
      omega
theorem rnE_pos {tx : Nat → Nat} {len q : Nat} (h : q < len) (hc : isL (tx q) = true) : q < rnE tx len (len - q) q := by
  rw [show len - q = (len - (q + 1)) + 1 by omega, rnE, if_pos ⟨h, isL_P hc⟩]
  have := rnE_le tx len (len - (q + 1)) (q + 1) (by omega)
  omega
theorem tkA_stp {tx : Nat → Nat} {len q : Nat} (h : q ≤ len) : q ≤ (tkA tx len q).2.2.1 ∧ (tkA tx len q).2.2.1 ≤ len ∧ (tkA tx len q).2.1 = q ∧ (q < len → q < (tkA tx len q).2.2.1) := by
  unfold tkA
  by_cases h1 : q < len
  · rw [if_pos h1]
    by_cases h2 : isL (tx q) = true
    · rw [if_pos h2]
      have g := rnE_le tx len (len - q) q h
      exact ⟨g.1, g.2, rfl, fun _ => rnE_pos h1 h2⟩
    · rw [if_neg h2]
      exact ⟨Nat.le_succ q, h1, rfl, fun _ => Nat.lt_succ_self q⟩
  · rw [if_neg h1]
    exact ⟨Nat.le_refl q, h, rfl, fun h => absurd h h1⟩
/-! one letter: what both sides say of it -/
theorem le_c : ∀ c, c < 127 → cTokens_isLetter (nI c) = some (isL c) := by decide +kernel
theorem pa_c : ∀ c, c < 127 → cTokens_isOfName (nI c) = some (isP c) := by decide +kernel
theorem le_m : ∀ c, c < 127 → m_isLetter (nI c) = some (isL c) := by decide +kernel
theorem pa_m : ∀ c, c < 127 → m_isPart (nI c) = some (isP c) := by decide +kernel
theorem so_c : ∀ c, c < 127 → 32 ≤ c → cTokens_sortOf (nI c) = some (nI (if isL c = true then 97 else if isG c = true then c else 63)) := by decide +kernel
theorem pk7 {a c : Nat} (ha : a < 72057594037927936) (hc : c < 128) : (lSh (lN a) 7) ||| ((nI c).toInt64) = lN (a * 128 + c) := by
  unfold lSh
  rw [show (7 : Int32) = nI 7 from rfl, wb_shl a (show 7 < 64 by omega), nI_l (by omega)]
  exact g_or (k := 7) (p := 128) (by decide) hc (by omega)
theorem pk6 {a c : Nat} (ha : a < 72057594037927936) (hc : c < 64) : (lSh (lN a) 6) ||| ((nI c).toInt64) = lN (a * 64 + c) := by
  unfold lSh
  rw [show (6 : Int32) = nI 6 from rfl, wb_shl a (show 6 < 64 by omega), nI_l (by omega)]
  exact g_or (k := 6) (p := 64) (by decide) hc (by omega)
theorem q7_56 {w : List Nat} (h : ∀ c ∈ w, ptc c) (hl : w.length ≤ 8) : q7 w < 72057594037927936 := by
  have h1 := q7_lt w h
  have h2 : 128 ^ w.length ≤ 128 ^ 8 := Nat.pow_le_pow_right (by decide) hl
  have h3 : 128 ^ 8 = 72057594037927936 := by decide
  omega
theorem q6_48 {w : List Nat} (h : ∀ c ∈ w, ptc c) (hl : w.length ≤ 8) : q6 w < 72057594037927936 := by
  have h1 := q6_lt w h
  have h2 : 64 ^ w.length ≤ 64 ^ 8 := Nat.pow_le_pow_right (by decide) hl
  have h3 : 64 ^ 8 = 281474976710656 := by decide
  omega

section SCN
variable {S S' : CS} {tx : Nat → Nat} {len : Nat}
/-- the class's row of tokens holds the first N -/
def TA (tx : Nat → Nat) (len : Nat) (S : CS) (N : Nat) : Prop := ∀ j, j < N → gI S 4 j = nI (tks tx len j).1 ∧ gI S 5 j = nI (tks tx len j).2.1 ∧ gL S 6 j = (tks tx len j).2.2.2.1
def TxC (tx : Nat → Nat) (len : Nat) (S : CS) : Prop := len ≤ 480 ∧ ∀ j, j < len → gI S 1 j = nI (tx j) ∧ 32 ≤ tx j ∧ tx j ≤ 126
def xTk (k j : Nat) : Prop := ¬ ((k = 3 ∧ j = 3) ∨ (4 ≤ k ∧ k ≤ 6))
def addS (S : CS) (N srt p : Nat) (x : Int64) : CS := pI (pL (pI (pI S 4 N (nI srt)) 5 N (nI p)) 6 N x) 3 3 (nI (N + 1))
theorem add_c {N srt p : Nat} {x : Int64} (hN : N < 481) (e : gI S 3 3 = nI N) (hs : srt < 65536) : cTokens_add (nI srt) (nI p) x S = some (addS S N srt p x) := by
  have i1 : inbd (nI N) 481 = true := inb_nI hN (by omega)
  have r1 : ∀ v, gI (pI S 4 N v) 3 3 = nI N := fun v => by (repeat (first | rw [gI_same] | rw [gI_other _ _ (by omega)] | rw [gI_pL] | rw [gI_pB] | rw [gI_pR])); exact e
  have r2 : ∀ v w, gI (pI (pI S 4 N v) 5 N w) 3 3 = nI N := fun v w => by (repeat (first | rw [gI_same] | rw [gI_other _ _ (by omega)] | rw [gI_pL] | rw [gI_pB] | rw [gI_pR])); exact e
  have r3 : ∀ v w y, gI (pL (pI (pI S 4 N v) 5 N w) 6 N y) 3 3 = nI N := fun v w y => by (repeat (first | rw [gI_same] | rw [gI_other _ _ (by omega)] | rw [gI_pL] | rw [gI_pB] | rw [gI_pR])); exact e
  unfold cTokens_add
  simp only [bd, e, if_neg (show ¬ (481 : Int32) ≤ nI N from nI_ge (b := 481) hN (by omega)), i1, if_true, tx_nI (show N < 2 ^ 31 by omega), iC_nI hs, r1, r2, r3, nI_1, addS]
theorem addS_fr (N srt p : Nat) (x : Int64) : eqC xTk S (addS S N srt p x) := ((((eqC.rf _ S).I _ (by simp [xTk])).I _ (by simp [xTk])).L _ (by simp [xTk])).I _ (by simp [xTk])
theorem addS_at {N srt p : Nat} {x : Int64} : gI (addS S N srt p x) 3 3 = nI (N + 1) ∧ gI (addS S N srt p x) 4 N = nI srt ∧ gI (addS S N srt p x) 5 N = nI p ∧ gL (addS S N srt p x) 6 N = x := by
  unfold addS
  refine ⟨?_, ?_, ?_, ?_⟩
  · (repeat (first | rw [gI_same] | rw [gI_other _ _ (by omega)] | rw [gI_pL] | rw [gI_pB] | rw [gI_pR]))
  · (repeat (first | rw [gI_same] | rw [gI_other _ _ (by omega)] | rw [gI_pL] | rw [gI_pB] | rw [gI_pR]))
  · (repeat (first | rw [gI_same] | rw [gI_other _ _ (by omega)] | rw [gI_pL] | rw [gI_pB] | rw [gI_pR]))
  · rw [gL_pI, gL_same]
theorem addS_old {N srt p j : Nat} {x : Int64} (hj : j ≠ N) : gI (addS S N srt p x) 4 j = gI S 4 j ∧ gI (addS S N srt p x) 5 j = gI S 5 j ∧ gL (addS S N srt p x) 6 j = gL S 6 j := by
  unfold addS
  refine ⟨?_, ?_, ?_⟩
  · (repeat (first | rw [gI_same] | rw [gI_other _ _ (by omega)] | rw [gI_pL] | rw [gI_pB] | rw [gI_pR]))
  · (repeat (first | rw [gI_same] | rw [gI_other _ _ (by omega)] | rw [gI_pL] | rw [gI_pB] | rw [gI_pR]))
  · rw [gL_pI, gL_other _ _ (by omega), gL_pI, gL_pI]
theorem TA_add {N srt p : Nat} {x : Int64} (h : TA tx len S N) (h1 : srt = (tks tx len N).1) (h2 : p = (tks tx len N).2.1) (h3 : x = (tks tx len N).2.2.2.1) : TA tx len (addS S N srt p x) (N + 1) := by
  intro j hj
  by_cases e : j = N
  · subst e
    obtain ⟨-, a1, a2, a3⟩ := addS_at (S := S) (N := j) (srt := srt) (p := p) (x := x)
    exact ⟨a1.trans (by rw [h1]), a2.trans (by rw [h2]), a3.trans h3⟩
  · obtain ⟨a1, a2, a3⟩ := addS_old (S := S) (srt := srt) (p := p) (x := x) e
    obtain ⟨b1, b2, b3⟩ := h j (by omega)
    exact ⟨a1.trans b1, a2.trans b2, a3.trans b3⟩
/-- a run of letters: the last token grows -/
theorem sc_rn {N p0 : Nat} (hT : TxC tx len S) (hN : N < 481) : ∀ r q, len - q = r → q ≤ len → ∀ (w : List Nat) (T : CS) f, r < f → eqC xTk S T → gI T 3 3 = nI (N + 1) → gI T 5 N = nI p0 → q = p0 + w.length → (∀ c ∈ w, ptc c) → gI T 4 N = nI (wS w) → gL T 6 N = w7 w → (∀ j, j ≠ N → gI T 4 j = gI S 4 j ∧ gI T 5 j = gI S 5 j ∧ gL T 6 j = gL S 6 j) →
    ∃ (T' : CS) (f' : Nat), cTokens_scan_L15 (nI len) f true (nI q) T = cTokens_scan_L15 (nI len) f' true (nI (rnE tx len r q)) T' ∧ len - rnE tx len r q < f' ∧ eqC xTk S T' ∧ gI T' 3 3 = nI (N + 1) ∧ gI T' 5 N = nI p0 ∧ gI T' 4 N = nI (wS (rnW tx len r q w)) ∧ gL T' 6 N = w7 (rnW tx len r q w) ∧ (∀ j, j ≠ N → gI T' 4 j = gI S 4 j ∧ gI T' 5 j = gI S 5 j ∧ gL T' 6 j = gL S 6 j) ∧ (rnE tx len r q < len → isP (tx (rnE tx len r q)) = false) := by
  intro r
  induction r with
  | zero =>
    intro q hq hql w T f hf h1 h2 h3 h4 h5 h6 h7 h8
    exact ⟨T, f, rfl, by show len - q < f; omega, h1, h2, h3, h6, h7, h8, fun h => by have h' : q < len := h; omega⟩
  | succ r ih =>
    intro q hq hql w T f hf h1 h2 h3 h4 h5 h6 h7 h8
    have hlen := hT.1
    rw [rnE, rnW]
    by_cases hc : q < len ∧ isP (tx q) = true
    · rw [if_pos hc, if_pos hc]
      obtain ⟨f, rfl⟩ := Nat.exists_eq_add_of_lt hf
      have hch := hT.2 q hc.1
      have hp := isP_c hc.2
      have e1 : gI T 1 q = nI (tx q) := (h1 1 q (by simp [xTk])).1.trans hch.1
      have i4 : inbd (nI q) 480 = true := inb_nI (by omega) (by omega)
      have i5 : inbd (nI N) 481 = true := inb_nI hN (by omega)
      have hsub : nI (N + 1) - 1 = nI N := nI_pred N
      have hd : nI q - nI p0 = nI w.length := by rw [h4, Nat.add_comm, ← nI_add, Int32.add_sub_cancel]
      have hex : ∃ T1, cTokens_extend (nI (tx q)) (nI q) T = some T1 ∧ eqC xTk S T1 ∧ gI T1 3 3 = nI (N + 1) ∧ gI T1 5 N = nI p0 ∧ gI T1 4 N = nI (wS (tx q :: w)) ∧ gL T1 6 N = w7 (tx q :: w) ∧ ∀ j, j ≠ N → gI T1 4 j = gI S 4 j ∧ gI T1 5 j = gI S 5 j ∧ gL T1 6 j = gL S 6 j := by
        unfold cTokens_extend
        simp only [bd, h2, hsub, if_pos (nI_pos' (n := N) (by omega)), i5, if_true, tx_nI (show N < 2 ^ 31 by omega), h3, hd]
        by_cases hl : 9 ≤ w.length
        · have h9 : (9 : Int32) ≤ nI w.length := nI_le (a := 9) hl (by omega)
          rw [if_pos h9, show iC 63 = nI 63 from iC_nI (n := 63) (by omega)]
          refine ⟨_, rfl, (h1.I _ (by simp [xTk])).L _ (by simp [xTk]), ?_, ?_, ?_, ?_, fun j hj => ?_⟩
          · (repeat (first | rw [gI_same] | rw [gI_other _ _ (by omega)] | rw [gI_pL] | rw [gI_pB] | rw [gI_pR])); exact h2
          · (repeat (first | rw [gI_same] | rw [gI_other _ _ (by omega)] | rw [gI_pL] | rw [gI_pB] | rw [gI_pR])); exact h3
          · (repeat (first | rw [gI_same] | rw [gI_other _ _ (by omega)] | rw [gI_pL] | rw [gI_pB] | rw [gI_pR])); rw [wS, if_neg (by simp only [List.length_cons]; omega)]
          · rw [gL_same, w7, if_neg (by simp only [List.length_cons]; omega)]
          · obtain ⟨a1, a2, a3⟩ := h8 j hj
            refine ⟨?_, ?_, ?_⟩
            · (repeat (first | rw [gI_same] | rw [gI_other _ _ (by omega)] | rw [gI_pL] | rw [gI_pB] | rw [gI_pR])); exact a1
            · (repeat (first | rw [gI_same] | rw [gI_other _ _ (by omega)] | rw [gI_pL] | rw [gI_pB] | rw [gI_pR])); exact a2
            · rw [gL_other _ _ (by omega), gL_pI]; exact a3
        · have h9 : ¬ (9 : Int32) ≤ nI w.length := nI_ge (b := 9) (by omega) (by omega)
          have hw7 : w7 w = lN (q7 w) := by rw [w7, if_pos (by omega)]
          rw [if_neg h9, h7, hw7, pk7 (q7_56 h5 (by omega)) (by unfold ptc at hp; omega)]
          refine ⟨_, rfl, h1.L _ (by simp [xTk]), h2, h3, ?_, ?_, fun j hj => ?_⟩
          · rw [gI_pL, h6, wS, wS, if_pos (by omega), if_pos (by simp only [List.length_cons]; omega)]
          · rw [gL_same, w7, if_pos (by simp only [List.length_cons]; omega), q7]
          · obtain ⟨a1, a2, a3⟩ := h8 j hj
            exact ⟨a1, a2, by rw [gL_other _ _ (by omega)]; exact a3⟩
      obtain ⟨T1, x1, x2, x3, x4, x5, x6, x7⟩ := hex
      obtain ⟨T', f', y1, y2⟩ := ih (q + 1) (by omega) (by omega) (tx q :: w) T1 (r + 1 + f) (by omega) x2 x3 x4 (by simp only [List.length_cons]; omega) (fun c hcm => by
        rcases List.mem_cons.mp hcm with h | h
        · rw [h]; exact hp
        · exact h5 c h) x5 x6 x7
      refine ⟨T', f', ?_, y2⟩
      rw [← y1, cTokens_scan_L15, if_neg (nI_ge hc.1 (by omega)), if_neg (show ¬ (480 : Int32) ≤ nI q from nI_ge (b := 480) (by omega) (by omega)), if_pos i4, tx_nI (show q < 2 ^ 31 by omega)]
      simp only [bd, e1, if_true, pa_c (tx q) (by omega), Option.bind_some, hc.2, x1, nI_1]
    · rw [if_neg hc, if_neg hc]
      exact ⟨T, f, rfl, by omega, h1, h2, h3, h6, h7, h8, fun h => by
        cases hp : isP (tx q) with
        | false => rfl
        | true => exact absurd ⟨h, hp⟩ hc⟩
end SCN
