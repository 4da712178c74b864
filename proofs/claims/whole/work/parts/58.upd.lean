/-! writing into the draft -/
theorem pI_cm (S : CS) {k j a c : Nat} (v w : Int32) (h : ¬ (k = a ∧ j = c)) : pI (pI S k j v) a c w = pI (pI S a c w) k j v := by
  refine Prod.ext (funext fun p => funext fun q => ?_) rfl
  show gI (pI (pI S k j v) a c w) p q = gI (pI (pI S a c w) k j v) p q
  rw [gI_pI, gI_pI, gI_pI, gI_pI]
  by_cases h1 : p = a ∧ q = c
  · rw [if_pos h1, if_neg (fun z => h ⟨z.1.symm.trans h1.1, z.2.symm.trans h1.2⟩), if_pos h1]
  · rw [if_neg h1]
    by_cases h2 : p = k ∧ q = j
    · rw [if_pos h2, if_pos h2]
    · rw [if_neg h2, if_neg h2, if_neg h1]
theorem b_sh1 {t i : Nat} (ht : t < 32) (hi : i < 32) : bt ((1 : Int32) <<< (nI t &&& 31)) i = decide (i = t) := by
  rw [b_shl t ht 1 hi, b_1 (i - t) (by omega)]
  by_cases e : i = t
  · subst e; simp
  · by_cases g : t ≤ i
    · rw [decide_eq_false (show ¬ i - t = 0 by omega), decide_eq_false e, Bool.and_false]
    · rw [decide_eq_false g, decide_eq_false e, Bool.false_and]
section DUP
variable {S S' : CS} {M M' : MS} {d b : Nat} {P P' : Nat → Nat}
theorem Dr.set (h : Dr d b P S M) (hP : ∀ n, n < 5 ∨ n = 9 → P' n = P n) (hc : eqC (fun k j => xD d (P 4) k j ∧ ¬ (k = d + 10 ∨ k = d + 11 ∨ (d + 13 ≤ k ∧ k < d + 21))) S S') (hm : eqC (fun k j => yD b (P 4) k j ∧ k ≠ 6 ∧ k ≠ 8 ∧ k ≠ 9 ∧ k ≠ 10) M M') (h10 : P' 10 ≤ P 2) (h11 : P' 11 ≤ P 0) (h12 : P' 12 ≤ P 3) (h58 : ∀ c, c < 4 → P' (5 + c) ≤ 8)
    (ps : ∀ c, c < 4 → gI S' (d + 13 + 2 * c) 1 = nI (P' (5 + c)) ∧ (c < P' 10 → gI M' 9 (4 * b + c) = nI (P' (5 + c)))) (pn : ∀ c, c < P' 10 → ∀ j, j < P' (5 + c) → NR (gL S' (d + 13 + 2 * c + 1) j) (gL M' 6 (8 * (4 * b + c) + j))) (pz : ∀ c, P' 10 ≤ c → c < 4 → P' (5 + c) = 0)
    (mb : ∀ a, a < 4 → ∀ t, t < 32 → bt (gI S' (d + 10) a) t = (decide (t < P' 11) && bt (gI M' 8 (12 * b + t)) a)) (bv : ∀ j, j < P' 12 → gB S' (d + 11) j = gB M' 10 (3 * b + j)) : Dr d b P' S' M' := by
  obtain ⟨hd, ptr, lm, sz, cn, nm, -, -, -, -, -, ru⟩ := h
  have e0 := hP 0 (by omega)
  have e2 := hP 2 (by omega)
  have e3 := hP 3 (by omega)
  have e4 := hP 4 (by omega)
  have e9 := hP 9 (by omega)
  have X : ∀ k j, d ≤ k → k < d + 21 + 4 * P 4 → ¬ (k = d + 10 ∨ k = d + 11 ∨ (d + 13 ≤ k ∧ k < d + 21)) → gI S' k j = gI S k j ∧ gL S' k j = gL S k j ∧ gR S' k j = gR S k j ∧ gB S' k j = gB S k j := fun k j g1 g2 g3 => hc k j ⟨Or.inr ⟨g1, g2⟩, g3⟩
  have hdd := hd.1
  refine ⟨hd, (hc 2 1 ⟨Or.inl ⟨rfl, rfl⟩, by omega⟩).2.2.1.trans ptr, ⟨fun w hw => ?_, ?_, ?_, h58, ?_, ?_, ?_⟩, fun w hw => ?_, ?_, fun w hw j hj => ?_, ps, pn, pz, mb, bv, fun j hj => ?_⟩
  · rw [hP w (by omega)]; exact lm.1 w hw
  · rw [e4, e9]; exact lm.2.1
  · rw [e9]; exact lm.2.2.1
  · rw [e2]; exact h10
  · rw [e0]; exact h11
  · rw [e3]; exact h12
  · rw [hP w (by omega)]
    exact ⟨(X _ _ (by omega) (by omega) (by omega)).1.trans (sz w hw).1, (hm 2 _ ⟨y_2 (by omega) (by omega), by omega, by omega, by omega, by omega⟩).1.trans (sz w hw).2⟩
  · rw [e9]
    exact ⟨(X _ _ (by omega) (by omega) (by omega)).1.trans cn.1, (hm 2 _ ⟨y_2 (by omega) (by omega), by omega, by omega, by omega, by omega⟩).1.trans cn.2⟩
  · rw [hP w (by omega)] at hj
    have hr := mc_r hw
    rw [(X _ j (by omega) (by omega) (by omega)).2.1, (hm _ _ ⟨mcD hw (Nat.lt_of_lt_of_le hj (lm.1 w hw)), by omega, by omega, by omega, by omega⟩).2.1]
    exact nm w hw j hj
  · rw [e4] at hj
    rw [e0, e3]
    have l9 := lm.2.1
    have l24 := lm.2.2.1
    exact (ru j hj).fr (fun a i g1 g2 => X a i (by omega) (by omega) (by omega)) (fun a g1 g2 => ⟨(hm a _ ⟨y_11 g1 g2 (by omega) (by omega), by omega, by omega, by omega, by omega⟩).1, (hm a _ ⟨y_11 g1 g2 (by omega) (by omega), by omega, by omega, by omega, by omega⟩).2.2.2⟩) (fun c hcc => (hm 20 _ ⟨y_20 (by omega) (by omega), by omega, by omega, by omega, by omega⟩).1) (fun e he => ⟨(hm 21 _ ⟨y_21 (Or.inl rfl) (by omega) (by omega), by omega, by omega, by omega, by omega⟩).1, (hm 22 _ ⟨y_21 (Or.inr rfl) (by omega) (by omega), by omega, by omega, by omega, by omega⟩).1⟩)
/-- the value of the bool that was declared last -/
theorem Dr.bv1 (h : Dr d b P S M) (v : Bool) (h3 : P 12 < P 3) : Dr d b (up P 12 (P 12 + 1)) (pB S (d + 11) (P 12) v) (pB M 10 (3 * b + P 12) v) := by
  obtain ⟨hd, ptr, lm, sz, cn, nm, ps, pn, pz, mb, bv, ru⟩ := id h
  have u : ∀ n, n < 12 → up P 12 (P 12 + 1) n = P n := fun n hn => up_ne (by omega)
  refine h.set (fun n hn => u n (by omega)) ((eqC.rf _ _).B _ (fun z => z.2 (Or.inr (Or.inl rfl)))) ((eqC.rf _ _).B _ (fun z => z.2.2.2.2 rfl)) (by rw [u 10 (by omega)]; exact lm.2.2.2.2.1) (by rw [u 11 (by omega)]; exact lm.2.2.2.2.2.1) (by rw [up_eq]; omega) (fun c hc => by rw [u _ (by omega)]; exact lm.2.2.2.1 c hc) (fun c hc => ?_) (fun c hc j hj => ?_) (fun c h1 h2 => ?_) (fun a ha t ht => ?_) (fun j hj => ?_)
  · rw [u _ (by omega), u 10 (by omega)]
    exact ps c hc
  · rw [u 10 (by omega)] at hc
    have h2 : P 2 ≤ 4 := lm.1 2 (by omega)
    have h10 := lm.2.2.2.2.1
    rw [u _ (by omega)] at hj
    exact pn c hc j hj
  · rw [u 10 (by omega)] at h1
    rw [u _ (by omega)]
    exact pz c h1 h2
  · rw [u 11 (by omega)]
    exact mb a ha t ht
  · rw [up_eq] at hj
    by_cases e : j = P 12
    · rw [e, gB_same, gB_same]
    · rw [gB_other _ _ (by omega), gB_other _ _ (by omega)]
      exact bv j (by omega)
/-- the type that was declared last has no attribute yet -/
theorem Dr.hs1 (h : Dr d b P S M) (h3 : P 11 < P 0) : Dr d b (up P 11 (P 11 + 1)) S (pI M 8 (12 * b + P 11) 0) := by
  obtain ⟨hd, ptr, lm, sz, cn, nm, ps, pn, pz, mb, bv, ru⟩ := id h
  have u : ∀ n, n ≠ 11 → up P 11 (P 11 + 1) n = P n := fun n hn => up_ne hn
  refine h.set (fun n hn => u n (by omega)) (eqC.rf _ _) ((eqC.rf _ _).I _ (fun z => z.2.2.1 rfl)) (by rw [u 10 (by omega)]; exact lm.2.2.2.2.1) (by rw [up_eq]; omega) (by rw [u 12 (by omega)]; exact lm.2.2.2.2.2.2) (fun c hc => by rw [u _ (by omega)]; exact lm.2.2.2.1 c hc) (fun c hc => ?_) (fun c hc j hj => ?_) (fun c h1 h2 => ?_) (fun a ha t ht => ?_) (fun j hj => ?_)
  · rw [u _ (by omega), u 10 (by omega), gI_other _ _ (by omega)]
    exact ps c hc
  · rw [u 10 (by omega)] at hc
    have h2 : P 2 ≤ 4 := lm.1 2 (by omega)
    have h10 := lm.2.2.2.2.1
    rw [u _ (by omega)] at hj
    exact pn c hc j hj
  · rw [u 10 (by omega)] at h1
    rw [u _ (by omega)]
    exact pz c h1 h2
  · rw [up_eq, mb a ha t ht]
    by_cases e : t = P 11
    · rw [e, gI_same, b_0, Bool.and_false, decide_eq_false (by omega), Bool.false_and]
    · rw [gI_other _ _ (by omega)]
      by_cases g : t < P 11
      · rw [decide_eq_true g, decide_eq_true (by omega)]
      · rw [decide_eq_false g, decide_eq_false (by omega)]
  · rw [u 12 (by omega)] at hj
    exact bv j hj
/-- a type gets an attribute -/
theorem Dr.mb1 (h : Dr d b P S M) {t a : Nat} (h3 : t < P 11) (h4 : a < 4) : Dr d b P (pI S (d + 10) a (gI S (d + 10) a ||| ((1 : Int32) <<< (nI t &&& 31)))) (pI M 8 (12 * b + t) (gI M 8 (12 * b + t) ||| ((1 : Int32) <<< (nI a &&& 31)))) := by
  obtain ⟨hd, ptr, lm, sz, cn, nm, ps, pn, pz, mb, bv, ru⟩ := id h
  have l0 : P 0 ≤ 12 := lm.1 0 (by omega)
  have l11 := lm.2.2.2.2.2.1
  refine h.set (fun n hn => rfl) ((eqC.rf _ _).I _ (fun z => z.2 (Or.inl rfl))) ((eqC.rf _ _).I _ (fun z => z.2.2.1 rfl)) lm.2.2.2.2.1 lm.2.2.2.2.2.1 lm.2.2.2.2.2.2 (fun c hc => lm.2.2.2.1 c hc) (fun c hc => ?_) (fun c hc j hj => pn c hc j hj) (fun c h1 h2 => pz c h1 h2) (fun a' ha t' ht => ?_) (fun j hj => bv j hj)
  · rw [gI_other _ _ (by omega), gI_other _ _ (by omega)]
    exact ps c hc
  · by_cases e1 : a' = a
    · subst e1
      rw [gI_same, b_or, b_sh1 (by omega) ht, mb a' ha t' ht]
      by_cases e2 : t' = t
      · subst e2
        rw [gI_same, b_or, b_sh1 (by omega) (by omega), decide_eq_true h3]
        simp
      · rw [gI_other _ _ (by omega), decide_eq_false e2, Bool.or_false]
    · rw [gI_other _ _ (by omega), mb a' ha t' ht]
      by_cases e2 : t' = t
      · subst e2
        rw [gI_same, b_or, b_sh1 (by omega) (by omega), decide_eq_false e1, Bool.or_false]
      · rw [gI_other _ _ (by omega)]
/-- the class that was declared last has no permission yet -/
theorem Dr.pc1 (h : Dr d b P S M) (h3 : P 10 < P 2) : Dr d b (up P 10 (P 10 + 1)) S (pI M 9 (4 * b + P 10) 0) := by
  obtain ⟨hd, ptr, lm, sz, cn, nm, ps, pn, pz, mb, bv, ru⟩ := id h
  have u : ∀ n, n ≠ 10 → up P 10 (P 10 + 1) n = P n := fun n hn => up_ne hn
  have l2 : P 2 ≤ 4 := lm.1 2 (by omega)
  refine h.set (fun n hn => u n (by omega)) (eqC.rf _ _) ((eqC.rf _ _).I _ (fun z => z.2.2.2.1 rfl)) (by rw [up_eq]; omega) (by rw [u 11 (by omega)]; exact lm.2.2.2.2.2.1) (by rw [u 12 (by omega)]; exact lm.2.2.2.2.2.2) (fun c hc => by rw [u _ (by omega)]; exact lm.2.2.2.1 c hc) (fun c hc => ?_) (fun c hc j hj => ?_) (fun c h1 h2 => ?_) (fun a ha t ht => ?_) (fun j hj => ?_)
  · rw [u _ (by omega), up_eq]
    refine ⟨(ps c hc).1, fun g => ?_⟩
    by_cases e : c = P 10
    · rw [e, gI_same, pz (P 10) (Nat.le_refl _) (by omega)]
      rfl
    · rw [gI_other _ _ (by omega)]
      exact (ps c hc).2 (by omega)
  · rw [up_eq] at hc
    rw [u _ (by omega)] at hj
    by_cases e : c = P 10
    · rw [e, pz (P 10) (Nat.le_refl _) (by omega)] at hj
      omega
    · exact pn c (by omega) j hj
  · rw [up_eq] at h1
    rw [u _ (by omega)]
    exact pz c (by omega) h2
  · rw [u 11 (by omega), gI_other _ _ (by omega)]
    exact mb a ha t ht
  · rw [u 12 (by omega)] at hj
    exact bv j hj
/-- a class gets a permission -/
theorem Dr.pn1 (h : Dr d b P S M) {c : Nat} {x y : Int64} (h3 : c < P 10) (h8 : P (5 + c) < 8) (hxy : NR x y) : Dr d b (up P (5 + c) (P (5 + c) + 1)) (pI (pL S (d + 13 + 2 * c + 1) (P (5 + c)) x) (d + 13 + 2 * c) 1 (nI (P (5 + c) + 1))) (pI (pL M 6 (8 * (4 * b + c) + P (5 + c)) y) 9 (4 * b + c) (nI (P (5 + c) + 1))) := by
  obtain ⟨hd, ptr, lm, sz, cn, nm, ps, pn, pz, mb, bv, ru⟩ := id h
  have l2 : P 2 ≤ 4 := lm.1 2 (by omega)
  have l10 := lm.2.2.2.2.1
  have u : ∀ n, n < 5 ∨ 9 ≤ n → up P (5 + c) (P (5 + c) + 1) n = P n := fun n hn => up_ne (by omega)
  refine h.set (fun n hn => u n (by omega)) (((eqC.rf _ _).L _ (fun z => z.2 (by omega))).I _ (fun z => z.2 (by omega))) (((eqC.rf _ _).L _ (fun z => z.2.1 rfl)).I _ (fun z => z.2.2.2.1 rfl)) (by rw [u 10 (by omega)]; exact l10) (by rw [u 11 (by omega)]; exact lm.2.2.2.2.2.1) (by rw [u 12 (by omega)]; exact lm.2.2.2.2.2.2) (fun c' hc => ?_) (fun c' hc => ?_) (fun c' hc j hj => ?_) (fun c' h1 h2 => ?_) (fun a ha t ht => ?_) (fun j hj => ?_)
  · by_cases e : c' = c
    · rw [e, up_eq]; omega
    · rw [up_ne (by omega)]; exact lm.2.2.2.1 c' hc
  · rw [u 10 (by omega)]
    by_cases e : c' = c
    · subst e
      rw [up_eq, gI_same, gI_same]
      exact ⟨rfl, fun _ => rfl⟩
    · rw [up_ne (by omega), gI_other _ _ (by omega), gI_pL, gI_other _ _ (by omega), gI_pL]
      exact ps c' hc
  · rw [u 10 (by omega)] at hc
    rw [gL_pI, gL_pI]
    by_cases e : c' = c
    · subst e
      rw [up_eq] at hj
      by_cases ej : j = P (5 + c')
      · rw [ej, gL_same, gL_same]
        exact hxy
      · rw [gL_other _ _ (by omega), gL_other _ _ (by omega)]
        exact pn c' hc j (by omega)
    · rw [up_ne (by omega)] at hj
      have h8' := lm.2.2.2.1 c' (by omega)
      rw [gL_other _ _ (by omega), gL_other _ _ (by omega)]
      exact pn c' hc j hj
  · rw [u 10 (by omega)] at h1
    rw [up_ne (by omega)]
    exact pz c' h1 h2
  · rw [u 11 (by omega), gI_other _ _ (by omega), gI_pL, gI_other _ _ (by omega), gI_pL]
    exact mb a ha t ht
  · rw [u 12 (by omega)] at hj
    exact bv j hj
end DUP
