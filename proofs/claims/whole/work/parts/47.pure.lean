section CAC
variable {S S' : CS} {M M' : MS} {o : Nat → Int64} {m β nt nc nb nr n s t c : Nat}
theorem ky_eq {i : Nat} (hE : EnR S M i m) (hs : s < 12) (ht : t < 12) (hc : c < 4) : gI M 26 i = nI (64 * s + 4 * t + c) ↔ (gI S (246 + i) 0 = nI s ∧ gI S (246 + i) 1 = nI t ∧ gI S (246 + i) 2 = nI c) := by
  obtain ⟨s', t', c', h1, h2, h3, e1, e2, e3, e4⟩ := hE.key
  rw [e1, e2, e3, e4, nI_eq (by omega) (by omega), nI_eq (by omega) (by omega), nI_eq (by omega) (by omega), nI_eq (by omega) (by omega)]
  constructor
  · intro h
    exact ⟨by omega, by omega, by omega⟩
  · rintro ⟨rfl, rfl, rfl⟩
    rfl
theorem cf_one {i : Nat} (hn : n ≤ 6) (e1 : gI S 244 1 = nI n) (hE : EnR S M i m) (hi : i < n) (hs : s < 12) (ht : t < 12) (hc : c < 4) (f : Nat) : cVectorCache_find_L3 (nI s) (nI t) (nI c) S (f + 1) (nI i) = if gI M 26 i = nI (64 * s + 4 * t + c) then some (nI i) else cVectorCache_find_L3 (nI s) (nI t) (nI c) S f (nI (i + 1)) := by
  have hk := ky_eq hE hs ht hc
  rw [cVectorCache_find_L3, e1, if_neg (nI_ge hi (by omega)), if_pos (inb_nI (by omega) (by omega)), tx_nI (show i < 2 ^ 31 by omega), show 245 + (1 + i) = 246 + i by omega]
  simp only [bd, nI_1]
  by_cases h1 : gI S (246 + i) 0 = nI s
  · by_cases h2 : gI S (246 + i) 1 = nI t
    · by_cases h3 : gI S (246 + i) 2 = nI c
      · rw [if_pos h1, if_pos h2, if_pos h3, if_pos (hk.mpr ⟨h1, h2, h3⟩)]
      · rw [if_pos h1, if_pos h2, if_neg h3, if_neg (fun z => h3 (hk.mp z).2.2)]
    · rw [if_pos h1, if_neg h2, if_neg (fun z => h2 (hk.mp z).2.1)]
  · rw [if_neg h1, if_neg (fun z => h1 (hk.mp z).1)]
theorem cf_eq (hn : n ≤ 6) (e1 : gI S 244 1 = nI n) (hE : ∀ i, i < n → EnR S M i m) (hs : s < 12) (ht : t < 12) (hc : c < 4) : (∃ i, i < n ∧ gI M 26 i = nI (64 * s + 4 * t + c) ∧ cVectorCache_find (nI s) (nI t) (nI c) S = some (nI i)) ∨ ((∀ i, i < n → ¬ gI M 26 i = nI (64 * s + 4 * t + c)) ∧ cVectorCache_find (nI s) (nI t) (nI c) S = some (-1)) := by
  have key : ∀ r i, i + r = n → ∀ f, r < f → (∃ j, i ≤ j ∧ j < n ∧ gI M 26 j = nI (64 * s + 4 * t + c) ∧ cVectorCache_find_L3 (nI s) (nI t) (nI c) S f (nI i) = some (nI j)) ∨ ((∀ j, i ≤ j → j < n → ¬ gI M 26 j = nI (64 * s + 4 * t + c)) ∧ cVectorCache_find_L3 (nI s) (nI t) (nI c) S f (nI i) = some (-1)) := by
    intro r
    induction r with
    | zero =>
      intro i hi f hf
      obtain ⟨f, rfl⟩ := Nat.exists_eq_add_of_lt hf
      refine Or.inr ⟨fun j h1 h2 => by omega, ?_⟩
      rw [Nat.zero_add, cVectorCache_find_L3, e1, if_pos (nI_le (by omega) (by omega))]
    | succ r ih =>
      intro i hi f hf
      obtain ⟨f, rfl⟩ := Nat.exists_eq_add_of_lt hf
      rw [cf_one hn e1 (hE i (by omega)) (by omega) hs ht hc]
      by_cases h : gI M 26 i = nI (64 * s + 4 * t + c)
      · rw [if_pos h]
        exact Or.inl ⟨i, Nat.le_refl _, by omega, h, rfl⟩
      · rw [if_neg h]
        rcases ih (i + 1) (by omega) (r + 1 + f) (by omega) with ⟨j, h1, h2, h3, h4⟩ | ⟨h1, h2⟩
        · exact Or.inl ⟨j, by omega, h2, h3, h4⟩
        · refine Or.inr ⟨fun j g1 g2 => ?_, h2⟩
          by_cases hj : j = i
          · rw [hj]; exact h
          · exact h1 j (by omega) g2
  rcases key n 0 (by omega) 600 (by omega) with ⟨j, -, h2, h3, h4⟩ | ⟨h1, h2⟩
  · exact Or.inl ⟨j, h2, h3, h4⟩
  · exact Or.inr ⟨fun i hi => h1 i (Nat.zero_le _) hi, h2⟩
/-- the place of the least, the first of them -/
def am (f : Nat → Int32) : Nat → Nat → Nat → Nat
  | 0, _, w => w
  | r + 1, i, w => am f r (i + 1) (if f i < f w then i else w)
theorem am_lt (f : Nat → Int32) : ∀ r i w, w < 6 → i + r ≤ 6 → am f r i w < 6
  | 0, _, _, h, _ => h
  | r + 1, i, w, h, h2 => am_lt f r (i + 1) _ (by split <;> omega) (by omega)
theorem fp_eq {f : Nat → Int32} (hf : ∀ i, i < 6 → gI S (246 + i) 4 = f i) : ∀ r i, i + r = 6 → ∀ g w, r < g → w < 6 → cVectorCache_freePlace_L30 S g (nI w) (nI i) = some (S, nI (am f r i w)) := by
  intro r
  induction r with
  | zero =>
    intro i hi g w hg hw
    obtain ⟨g, rfl⟩ := Nat.exists_eq_add_of_lt hg
    rw [Nat.zero_add, cVectorCache_freePlace_L30, if_pos (show (6 : Int32) ≤ nI i from nI_le (a := 6) (by omega) (by omega))]
    rfl
  | succ r ih =>
    intro i hi g w hg hw
    obtain ⟨g, rfl⟩ := Nat.exists_eq_add_of_lt hg
    rw [cVectorCache_freePlace_L30, if_neg (show ¬ (6 : Int32) ≤ nI i from nI_ge (b := 6) (by omega) (by omega)), if_pos (inb_nI (by omega) (by omega)), tx_nI (show i < 2 ^ 31 by omega), tx_nI (show w < 2 ^ 31 by omega)]
    simp only [bd, nI_1]
    rw [if_pos (inb_nI hw (by omega)), show 245 + (1 + i) = 246 + i by omega, show 245 + (1 + w) = 246 + w by omega, hf i (by omega), hf w hw, am]
    by_cases h : f w ≤ f i
    · rw [if_pos h, if_neg (Int32.not_lt.mpr h)]
      exact ih (i + 1) (by omega) _ w (by omega) hw
    · rw [if_neg h, if_pos (Int32.not_le.mp h)]
      exact ih (i + 1) (by omega) _ i (by omega) (by omega)
theorem ml_one {i w : Nat} {e k : Int32} (hn : n ≤ 6) (e2 : gI M 0 42 = nI n) (hi : i < n) (hw : w < 6) (g : Nat) : m_isAllowed_L9 (nI s) (nI t) (nI c) k M (g + 1) e (nI w) (nI i) = m_isAllowed_L9 (nI s) (nI t) (nI c) k M g (if gI M 26 i = nI (64 * s + 4 * t + c) then nI i else e) (nI (if gI M 29 i < gI M 29 w then i else w)) (nI (i + 1)) := by
  have hk : (64 : Int32) * nI s + 4 * nI t + nI c = nI (64 * s + 4 * t + c) := by
    rw [show (64 : Int32) = nI 64 from rfl, show (4 : Int32) = nI 4 from rfl, nI_mul, nI_mul, nI_add, nI_add]
  rw [m_isAllowed_L9, e2, if_neg (nI_ge hi (by omega)), if_pos (inb_nI (by omega) (by omega)), hk, tx_nI (show i < 2 ^ 31 by omega)]
  unfold m_isAllowed_J45
  simp only [bd, nI_1, inb_nI (show i < 6 by omega) (show 6 < 2 ^ 31 by omega), inb_nI hw (show 6 < 2 ^ 31 by omega), if_true, tx_nI (show i < 2 ^ 31 by omega), tx_nI (show w < 2 ^ 31 by omega)]
  by_cases h : gI M 26 i = nI (64 * s + 4 * t + c)
  · rw [if_pos h, if_pos h]
    by_cases h2 : gI M 29 w ≤ gI M 29 i
    · rw [if_pos h2, if_neg (Int32.not_lt.mpr h2)]
    · rw [if_neg h2, if_pos (Int32.not_le.mp h2)]
  · rw [if_neg h, if_neg h]
    by_cases h2 : gI M 29 w ≤ gI M 29 i
    · rw [if_pos h2, if_neg (Int32.not_lt.mpr h2)]
    · rw [if_neg h2, if_pos (Int32.not_le.mp h2)]
def el (P : Nat → Bool) : Nat → Nat → Int32 → Int32
  | 0, _, e => e
  | r + 1, i, e => el P r (i + 1) (if P i = true then nI i else e)
theorem el_no {P : Nat → Bool} : ∀ r i e, (∀ j, i ≤ j → j < i + r → P j = false) → el P r i e = e
  | 0, _, _, _ => rfl
  | r + 1, i, e, h => by
    rw [el, h i (Nat.le_refl _) (by omega), if_neg (by simp)]
    exact el_no r (i + 1) e (fun j h1 h2 => h j (by omega) (by omega))
theorem el_yes {P : Nat → Bool} {j : Nat} : ∀ r i e, i ≤ j → j < i + r → P j = true → (∀ q, i ≤ q → q < i + r → P q = true → q = j) → el P r i e = nI j
  | 0, _, _, h1, h2, _, _ => by omega
  | r + 1, i, e, h1, h2, h3, h4 => by
    rw [el]
    by_cases hij : i = j
    · subst hij
      rw [if_pos h3]
      refine el_no r (i + 1) _ (fun q g1 g2 => ?_)
      cases hq : P q with
      | false => rfl
      | true => have := h4 q (by omega) (by omega) hq; omega
    · exact el_yes r (i + 1) _ (by omega) (by omega) h3 (fun q g1 g2 g3 => h4 q (by omega) (by omega) g3)
/-- the reference's search, brought to its end -/
theorem ml_run {k : Int32} (hn : n ≤ 6) (e2 : gI M 0 42 = nI n) : ∀ r i, i + r = n → ∀ g w e, r < g → w < 6 → ∃ g', m_isAllowed_L9 (nI s) (nI t) (nI c) k M g e (nI w) (nI i) = m_isAllowed_L9 (nI s) (nI t) (nI c) k M (g' + 1) (el (fun j => decide (gI M 26 j = nI (64 * s + 4 * t + c))) r i e) (nI (am (gI M 29) r i w)) (nI n) := by
  intro r
  induction r with
  | zero =>
    intro i hi g w e hg hw
    obtain ⟨g, rfl⟩ := Nat.exists_eq_add_of_lt hg
    exact ⟨g, by rw [Nat.zero_add, show i = n by omega]; rfl⟩
  | succ r ih =>
    intro i hi g w e hg hw
    obtain ⟨g, rfl⟩ := Nat.exists_eq_add_of_lt hg
    rw [ml_one hn e2 (by omega) hw, am, el]
    simp only [decide_eq_true_eq]
    exact ih (i + 1) (by omega) _ _ _ (by omega) (by split <;> omega)
end CAC

theorem pI_id (S : CS) (k j : Nat) : pI S k j (gI S k j) = S := by
  unfold pI gI va_up
  refine Prod.ext ?_ rfl
  funext a b
  by_cases h : a = k
  · subst h
    by_cases h2 : b = j
    · subst h2; simp
    · simp [h2]
  · simp [h]
theorem kd22 : ∀ i, i < 6 → kd (246 + i) = 22 := by decide +kernel
theorem ne_m1 {j : Nat} (h : j < 2 ^ 31) : ¬ nI j = -1 := fun z => nI_pos (n := j) h (by rw [z]; decide)
section IG
variable {S S' : CS} {M M' : MS} {o : Nat → Int64} {m β nt nc nb nr n s t c : Nat}
/-- the class's cache after one ask: entry e answers -/
abbrev AfC (S T : CS) (e n' a s t c q : Nat) (h' m' : Int32) (v : Nat → Nat) : Prop := (eqC (fun k j => ¬ xCa k j) S T) ∧ (gI T 244 1 = nI n') ∧ (gI T 244 2 = nI (a + 1)) ∧ (gI T 244 3 = h') ∧ (gI T 244 4 = m') ∧ (∀ i j, i < 6 → i ≠ e → gI T (246 + i) j = gI S (246 + i) j) ∧ (gI T (246 + e) 0 = nI s ∧ gI T (246 + e) 1 = nI t ∧ gI T (246 + e) 2 = nI c) ∧ (gI T (246 + e) 3 = nI q) ∧ (gI T (246 + e) 4 = nI (a + 1)) ∧ (∀ j, j < 3 → gI T (246 + e) (5 + j) = nI (v j))
theorem AfC.fr {S T : CS} {e n' a s t c q : Nat} {h' m' : Int32} {v : Nat → Nat} (zh : AfC S T e n' a s t c q h' m' v) : eqC (fun k j => ¬ xCa k j) S T := zh.1
theorem AfC.n1 {S T : CS} {e n' a s t c q : Nat} {h' m' : Int32} {v : Nat → Nat} (zh : AfC S T e n' a s t c q h' m' v) : gI T 244 1 = nI n' := zh.2.1
theorem AfC.a {S T : CS} {e n' a s t c q : Nat} {h' m' : Int32} {v : Nat → Nat} (zh : AfC S T e n' a s t c q h' m' v) : gI T 244 2 = nI (a + 1) := zh.2.2.1
theorem AfC.h {S T : CS} {e n' a s t c q : Nat} {h' m' : Int32} {v : Nat → Nat} (zh : AfC S T e n' a s t c q h' m' v) : gI T 244 3 = h' := zh.2.2.2.1
theorem AfC.m1 {S T : CS} {e n' a s t c q : Nat} {h' m' : Int32} {v : Nat → Nat} (zh : AfC S T e n' a s t c q h' m' v) : gI T 244 4 = m' := zh.2.2.2.2.1
theorem AfC.o1 {S T : CS} {e n' a s t c q : Nat} {h' m' : Int32} {v : Nat → Nat} (zh : AfC S T e n' a s t c q h' m' v) : ∀ i j, i < 6 → i ≠ e → gI T (246 + i) j = gI S (246 + i) j := zh.2.2.2.2.2.1
theorem AfC.k {S T : CS} {e n' a s t c q : Nat} {h' m' : Int32} {v : Nat → Nat} (zh : AfC S T e n' a s t c q h' m' v) : gI T (246 + e) 0 = nI s ∧ gI T (246 + e) 1 = nI t ∧ gI T (246 + e) 2 = nI c := zh.2.2.2.2.2.2.1
theorem AfC.st {S T : CS} {e n' a s t c q : Nat} {h' m' : Int32} {v : Nat → Nat} (zh : AfC S T e n' a s t c q h' m' v) : gI T (246 + e) 3 = nI q := zh.2.2.2.2.2.2.2.1
theorem AfC.g {S T : CS} {e n' a s t c q : Nat} {h' m' : Int32} {v : Nat → Nat} (zh : AfC S T e n' a s t c q h' m' v) : gI T (246 + e) 4 = nI (a + 1) := zh.2.2.2.2.2.2.2.2.1
theorem AfC.v {S T : CS} {e n' a s t c q : Nat} {h' m' : Int32} {v : Nat → Nat} (zh : AfC S T e n' a s t c q h' m' v) : ∀ j, j < 3 → gI T (246 + e) (5 + j) = nI (v j) := zh.2.2.2.2.2.2.2.2.2
/-- the fields of an entry that is asked -/
theorem j103 {e a : Nat} (he : e < 6) (ha : gI S 244 2 = nI a) : cVectorCache_entryFor_J103 (nI e) S = some (pI (pI S 244 2 (nI (a + 1))) (246 + e) 4 (nI (a + 1)), 246 + e) := by
  unfold cVectorCache_entryFor_J103
  simp only [bd, ha, nI_1, inb_nI he (show 6 < 2 ^ 31 by omega), if_true, tx_nI (show e < 2 ^ 31 by omega), gI_same, show 245 + (1 + e) = 246 + e by omega]
theorem fill_eq (hB : BkR S M β) (hP : PoR S M (pcl β) β nt nc nb nr) {e q : Nat} (he : e < 6) (hs : s < nt) (ht : t < nt) (hc : c < nc) (k0 : gI S (246 + e) 0 = nI s) (k1 : gI S (246 + e) 1 = nI t) (k2 : gI S (246 + e) 2 = nI c) (hq : gI S 0 4 = nI q) : ∃ v : Nat → Nat, (∀ j, v j < 256) ∧ (∀ w, w < 3 → m_worked (nI w) (nI s) (nI t) (nI c) M = some (nI (v w))) ∧ cG_fill (246 + e) S = some (pI (pI (pI (pI S (246 + e) 5 (nI (v 0))) (246 + e) 6 (nI (v 1))) (246 + e) 7 (nI (v 2))) (246 + e) 3 (nI q)) := by
  obtain ⟨v0, l0, a0, b0⟩ := vec_eq hB hP (w := 0) (by omega) hs ht hc
  have hpl : pcl β + 117 ≤ 246 := by unfold pcl; split <;> omega
  have hP1 : ∀ x, PoR (pI S (246 + e) 5 x) M (pcl β) β nt nc nb nr := fun x => hP.fr ((eqC.rf _ _).I _ (by simp only [xPo]; omega)) (eqC.rf _ _)
  have hB1 : ∀ x, BkR (pI S (246 + e) 5 x) M β := fun x => hB.fr ((eqC.rf _ _).I _ (by simp only [xBk]; omega)) (eqC.rf _ _)
  obtain ⟨v1, l1, a1, b1⟩ := vec_eq (hB1 (nI v0)) (hP1 (nI v0)) (w := 1) (by omega) hs ht hc
  have hP2 : ∀ x y, PoR (pI (pI S (246 + e) 5 x) (246 + e) 6 y) M (pcl β) β nt nc nb nr := fun x y => (hP1 x).fr ((eqC.rf _ _).I _ (by simp only [xPo]; omega)) (eqC.rf _ _)
  have hB2 : ∀ x y, BkR (pI (pI S (246 + e) 5 x) (246 + e) 6 y) M β := fun x y => (hB1 x).fr ((eqC.rf _ _).I _ (by simp only [xBk]; omega)) (eqC.rf _ _)
  obtain ⟨v2, l2, a2, b2⟩ := vec_eq (hB2 (nI v0) (nI v1)) (hP2 (nI v0) (nI v1)) (w := 2) (by omega) hs ht hc
  refine ⟨fun j => if j = 0 then v0 else if j = 1 then v1 else v2, fun j => ?_, fun w hw => ?_, ?_⟩
  · show (if j = 0 then v0 else if j = 1 then v1 else v2) < 256
    split
    · exact l0
    · split
      · exact l1
      · exact l2
  · have : w = 0 ∨ w = 1 ∨ w = 2 := by omega
    rcases this with rfl | rfl | rfl
    · exact b0
    · exact b1
    · exact b2
  · have a0' : cPolicy_permissionsBy (pcl β) 5 (nI s) (nI t) (nI c) S = some (nI v0) := a0
    have a1' : cPolicy_permissionsBy (pcl β) 6 (nI s) (nI t) (nI c) (pI S (246 + e) 5 (nI v0)) = some (nI v1) := a1
    have a2' : cPolicy_permissionsBy (pcl β) 7 (nI s) (nI t) (nI c) (pI (pI S (246 + e) 5 (nI v0)) (246 + e) 6 (nI v1)) = some (nI v2) := a2
    have r0 : ∀ x, gI (pI S (246 + e) 5 x) (246 + e) 0 = nI s := fun x => by (repeat (first | rw [gI_same] | rw [gI_other _ _ (by omega)] | rw [gI_pL] | rw [gI_pB] | rw [gI_pR])); exact k0
    have r1 : ∀ x, gI (pI S (246 + e) 5 x) (246 + e) 1 = nI t := fun x => by (repeat (first | rw [gI_same] | rw [gI_other _ _ (by omega)] | rw [gI_pL] | rw [gI_pB] | rw [gI_pR])); exact k1
    have r2 : ∀ x, gI (pI S (246 + e) 5 x) (246 + e) 2 = nI c := fun x => by (repeat (first | rw [gI_same] | rw [gI_other _ _ (by omega)] | rw [gI_pL] | rw [gI_pB] | rw [gI_pR])); exact k2
    have p0 : ∀ x y, gI (pI (pI S (246 + e) 5 x) (246 + e) 6 y) (246 + e) 0 = nI s := fun x y => by (repeat (first | rw [gI_same] | rw [gI_other _ _ (by omega)] | rw [gI_pL] | rw [gI_pB] | rw [gI_pR])); exact k0
    have p1 : ∀ x y, gI (pI (pI S (246 + e) 5 x) (246 + e) 6 y) (246 + e) 1 = nI t := fun x y => by (repeat (first | rw [gI_same] | rw [gI_other _ _ (by omega)] | rw [gI_pL] | rw [gI_pB] | rw [gI_pR])); exact k1
    have p2 : ∀ x y, gI (pI (pI S (246 + e) 5 x) (246 + e) 6 y) (246 + e) 2 = nI c := fun x y => by (repeat (first | rw [gI_same] | rw [gI_other _ _ (by omega)] | rw [gI_pL] | rw [gI_pB] | rw [gI_pR])); exact k2
    have z4 : ∀ x y z, gI (pI (pI (pI S (246 + e) 5 x) (246 + e) 6 y) (246 + e) 7 z) 0 4 = nI q := fun x y z => by (repeat (first | rw [gI_same] | rw [gI_other _ _ (by omega)] | rw [gI_pL] | rw [gI_pB] | rw [gI_pR])); exact hq
    unfold cG_fill
    simp only [bd, hB.2.2.1, pcl_7, if_true, k0, k1, k2, a0', Option.bind_some, gR_pI, r0, r1, r2, a1', p0, p1, p2, a2', z4, show ¬ (1 : Nat) = 0 by decide, show ¬ (2 : Nat) = 0 by decide, show ¬ (2 : Nat) = 1 by decide, if_false]
def TT (S : CS) (e a q : Nat) (mi : Int32) (v : Nat → Nat) : CS := pI (pI (pI (pI (pI (pI (pI S 244 4 mi) 244 2 (nI (a + 1))) (246 + e) 4 (nI (a + 1))) (246 + e) 5 (nI (v 0))) (246 + e) 6 (nI (v 1))) (246 + e) 7 (nI (v 2))) (246 + e) 3 (nI q)
def TH (S : CS) (e a : Nat) (hi : Int32) : CS := pI (pI (pI S 244 3 hi) 244 2 (nI (a + 1))) (246 + e) 4 (nI (a + 1))
def igK (x1 x2 x3 k : Int32) (q11 : CS × Nat) : Option (CS × Bool) := if kd q11.2 = 22 then (if (gI q11.1 q11.2 3) = (gI q11.1 0 4) then cG_isGranted_J34 x1 x2 x3 k q11.2 q11.1 else ((cG_fill q11.2 q11.1).bind fun q31 => cG_isGranted_J34 x1 x2 x3 k q11.2 q31)) else none
/-- a stale entry is filled -/
theorem j65_st (hB : BkR S M β) (hP : PoR S M (pcl β) β nt nc nb nr) {e q a : Nat} (k : Int32) (he : e < 6) (hs : s < nt) (ht : t < nt) (hc : c < nc) (k0 : gI S (246 + e) 0 = nI s) (k1 : gI S (246 + e) 1 = nI t) (k2 : gI S (246 + e) 2 = nI c) (hq : gI S 0 4 = nI q) (ha : gI S 244 2 = nI a) (hst : ¬ gI S (246 + e) 3 = nI q) : ∃ v : Nat → Nat, (∀ j, v j < 256) ∧ (∀ w, w < 3 → m_worked (nI w) (nI s) (nI t) (nI c) M = some (nI (v w))) ∧ (cVectorCache_entryFor_J65 (nI q) (nI e) S).bind (igK (nI s) (nI t) (nI c) k) = cG_isGranted_J34 (nI s) (nI t) (nI c) k (246 + e) (TT S e a q (gI S 244 4 + 1) v) := by
  have hpl : pcl β + 117 ≤ 241 := by unfold pcl; split <;> omega
  generalize hmi : gI S 244 4 + 1 = mi
  have eC : ∀ P : Nat → Nat → Prop, (¬ P 244 4) → (¬ P 244 2) → (¬ P (246 + e) 4) → eqC P S (pI (pI (pI S 244 4 mi) 244 2 (nI (a + 1))) (246 + e) 4 (nI (a + 1))) := fun P h1 h2 h3 => (((eqC.rf P S).I _ h1).I _ h2).I _ h3
  have hB1 := hB.fr (eC xBk (by simp [xBk]) (by simp [xBk]) (by simp only [xBk]; omega)) (eqC.rf _ M)
  have hP1 := hP.fr (eC (xPo (pcl β)) (by simp only [xPo]; omega) (by simp only [xPo]; omega) (by simp only [xPo]; omega)) (eqC.rf _ M)
  obtain ⟨v, v1, v2, v3⟩ := fill_eq (S := pI (pI (pI S 244 4 mi) 244 2 (nI (a + 1))) (246 + e) 4 (nI (a + 1))) hB1 hP1 he hs ht hc (by (repeat (first | rw [gI_same] | rw [gI_other _ _ (by omega)] | rw [gI_pL] | rw [gI_pB] | rw [gI_pR])); exact k0) (by (repeat (first | rw [gI_same] | rw [gI_other _ _ (by omega)] | rw [gI_pL] | rw [gI_pB] | rw [gI_pR])); exact k1) (by (repeat (first | rw [gI_same] | rw [gI_other _ _ (by omega)] | rw [gI_pL] | rw [gI_pB] | rw [gI_pR])); exact k2) (by (repeat (first | rw [gI_same] | rw [gI_other _ _ (by omega)] | rw [gI_pL] | rw [gI_pB] | rw [gI_pR])); exact hq)
  refine ⟨v, v1, v2, ?_⟩
  have r3 : gI (pI (pI (pI S 244 4 mi) 244 2 (nI (a + 1))) (246 + e) 4 (nI (a + 1))) (246 + e) 3 = gI S (246 + e) 3 := by (repeat (first | rw [gI_same] | rw [gI_other _ _ (by omega)] | rw [gI_pL] | rw [gI_pB] | rw [gI_pR]))
  have r4 : gI (pI (pI (pI S 244 4 mi) 244 2 (nI (a + 1))) (246 + e) 4 (nI (a + 1))) 0 4 = nI q := by (repeat (first | rw [gI_same] | rw [gI_other _ _ (by omega)] | rw [gI_pL] | rw [gI_pB] | rw [gI_pR])); exact hq
  unfold cVectorCache_entryFor_J65
  simp only [bd, inb_nI he (show 6 < 2 ^ 31 by omega), if_true, tx_nI (show e < 2 ^ 31 by omega), show 245 + (1 + e) = 246 + e by omega, hst, if_false, hmi]
  rw [j103 he (S := pI S 244 4 mi) (by (repeat (first | rw [gI_same] | rw [gI_other _ _ (by omega)] | rw [gI_pL] | rw [gI_pB] | rw [gI_pR])); exact ha), Option.bind_some]
  unfold igK
  simp only [kd22 e he, if_true, r3, r4, hst, if_false, v3, Option.bind_some, TT]
theorem j65_hit {e q a : Nat} (k x1 x2 x3 : Int32) (he : e < 6) (hq : gI S 0 4 = nI q) (ha : gI S 244 2 = nI a) (hst : gI S (246 + e) 3 = nI q) : (cVectorCache_entryFor_J65 (nI q) (nI e) S).bind (igK x1 x2 x3 k) = cG_isGranted_J34 x1 x2 x3 k (246 + e) (TH S e a (gI S 244 3 + 1)) := by
  generalize hmi : gI S 244 3 + 1 = mi
  have r3 : gI (pI (pI (pI S 244 3 mi) 244 2 (nI (a + 1))) (246 + e) 4 (nI (a + 1))) (246 + e) 3 = nI q := by (repeat (first | rw [gI_same] | rw [gI_other _ _ (by omega)] | rw [gI_pL] | rw [gI_pB] | rw [gI_pR])); exact hst
  have r4 : gI (pI (pI (pI S 244 3 mi) 244 2 (nI (a + 1))) (246 + e) 4 (nI (a + 1))) 0 4 = nI q := by (repeat (first | rw [gI_same] | rw [gI_other _ _ (by omega)] | rw [gI_pL] | rw [gI_pB] | rw [gI_pR])); exact hq
  unfold cVectorCache_entryFor_J65
  simp only [bd, inb_nI he (show 6 < 2 ^ 31 by omega), if_true, tx_nI (show e < 2 ^ 31 by omega), show 245 + (1 + e) = 246 + e by omega, hst, hmi]
  rw [j103 he (S := pI S 244 3 mi) (by (repeat (first | rw [gI_same] | rw [gI_other _ _ (by omega)] | rw [gI_pL] | rw [gI_pB] | rw [gI_pR])); exact ha), Option.bind_some]
  unfold igK
  simp only [kd22 e he, if_true, r3, r4, TH]
def NWE (S : CS) (e : Nat) (s t c : Nat) : CS := pI (pI (pI (pI S (246 + e) 0 (nI s)) (246 + e) 1 (nI t)) (246 + e) 2 (nI c)) (246 + e) 3 (-1)
/-- which entry answers, and how it came -/
def Hw (S : CS) (M : MS) (n e n' q s t c : Nat) (h' m' : Int32) (v : Nat → Nat) : Prop :=
  (e < n ∧ n' = n ∧ gI M 26 e = nI (64 * s + 4 * t + c) ∧ gI M 27 e = nI q ∧ h' = gI S 244 3 + 1 ∧ m' = gI S 244 4 ∧ ∀ j, j < 3 → gI M 28 (3 * e + j) = nI (v j)) ∨
  (h' = gI S 244 3 ∧ m' = gI S 244 4 + 1 ∧ (∀ w, w < 3 → m_worked (nI w) (nI s) (nI t) (nI c) M = some (nI (v w))) ∧
    ((e < n ∧ n' = n ∧ gI M 26 e = nI (64 * s + 4 * t + c) ∧ ¬ gI M 27 e = nI q) ∨ ((∀ i, i < n → ¬ gI M 26 i = nI (64 * s + 4 * t + c)) ∧ ((n < 6 ∧ e = n ∧ n' = n + 1) ∨ (n = 6 ∧ e = am (gI M 29) 6 0 0 ∧ n' = 6)))))
theorem cls_ask (hB : BkR S M β) (hP : PoR S M (pcl β) β nt nc nb nr) {q a : Nat} (hs : s < nt) (ht : t < nt) (hc : c < nc) (hq0 : q < 2 ^ 31) (hq : gI S 0 4 = nI q) (ha : gI S 244 2 = nI a) (hn : n ≤ 6) (hn1 : gI S 244 1 = nI n) (hE : ∀ i, i < n → EnR S M i m) (k : Int32) : ∃ (T : CS) (e n' : Nat) (h' m' : Int32) (v : Nat → Nat), cG_isGranted (nI s) (nI t) (nI c) k S = cG_isGranted_J34 (nI s) (nI t) (nI c) k (246 + e) T ∧ AfC S T e n' a s t c q h' m' v ∧ e < n' ∧ n' ≤ 6 ∧ (∀ j, j < 3 → v j < 256) ∧ Hw S M n e n' q s t c h' m' v := by
  have hl := hP.lim
  have hpl : pcl β + 117 ≤ 241 := by unfold pcl; split <;> omega
  have hun : cG_isGranted (nI s) (nI t) (nI c) k S = (cVectorCache_entryFor (nI s) (nI t) (nI c) (nI q) S).bind (igK (nI s) (nI t) (nI c) k) := by
    unfold cG_isGranted
    rw [hq]
    rfl
  rw [hun]
  unfold cVectorCache_entryFor
  rcases cf_eq hn hn1 hE (show s < 12 by omega) (show t < 12 by omega) (show c < 4 by omega) with ⟨e, he, hk, hf⟩ | ⟨hno, hf⟩
  · rw [hf, Option.bind_some, if_neg (ne_m1 (by omega))]
    obtain ⟨q', -, s1, s2⟩ := (hE e he).st
    obtain ⟨k0, k1, k2⟩ := (ky_eq (hE e he) (show s < 12 by omega) (show t < 12 by omega) (show c < 4 by omega)).mp hk
    by_cases hst : gI S (246 + e) 3 = nI q
    · rw [j65_hit k _ _ _ (show e < 6 by omega) hq ha hst]
      have hv := (hE e he).v
      obtain ⟨v0, a0, b0, c0⟩ := hv 0 (by omega)
      obtain ⟨v1, a1, b1, c1⟩ := hv 1 (by omega)
      obtain ⟨v2, a2, b2, c2⟩ := hv 2 (by omega)
      refine ⟨TH S e a (gI S 244 3 + 1), e, n, _, _, fun j => if j = 0 then v0 else if j = 1 then v1 else v2, rfl, ⟨?_, ?_, ?_, ?_, ?_, fun i j hi hie => ?_, ?_, ?_, ?_, fun j hj => ?_⟩, he, hn, fun j hj => ?_, Or.inl ⟨he, rfl, hk, ?_, rfl, rfl, fun j hj => ?_⟩⟩
      · exact (((eqC.rf _ S).I _ (by simp [xCa])).I _ (by simp [xCa])).I _ (by simp only [xCa]; omega)
      · unfold TH; (repeat (first | rw [gI_same] | rw [gI_other _ _ (by omega)] | rw [gI_pL] | rw [gI_pB] | rw [gI_pR])); exact hn1
      · unfold TH; (repeat (first | rw [gI_same] | rw [gI_other _ _ (by omega)] | rw [gI_pL] | rw [gI_pB] | rw [gI_pR]))
      · unfold TH; (repeat (first | rw [gI_same] | rw [gI_other _ _ (by omega)] | rw [gI_pL] | rw [gI_pB] | rw [gI_pR]))
      · unfold TH; (repeat (first | rw [gI_same] | rw [gI_other _ _ (by omega)] | rw [gI_pL] | rw [gI_pB] | rw [gI_pR]))
      · unfold TH; (repeat (first | rw [gI_same] | rw [gI_other _ _ (by omega)] | rw [gI_pL] | rw [gI_pB] | rw [gI_pR]))
      · unfold TH
        refine ⟨?_, ?_, ?_⟩
        · (repeat (first | rw [gI_same] | rw [gI_other _ _ (by omega)] | rw [gI_pL] | rw [gI_pB] | rw [gI_pR])); exact k0
        · (repeat (first | rw [gI_same] | rw [gI_other _ _ (by omega)] | rw [gI_pL] | rw [gI_pB] | rw [gI_pR])); exact k1
        · (repeat (first | rw [gI_same] | rw [gI_other _ _ (by omega)] | rw [gI_pL] | rw [gI_pB] | rw [gI_pR])); exact k2
      · unfold TH; (repeat (first | rw [gI_same] | rw [gI_other _ _ (by omega)] | rw [gI_pL] | rw [gI_pB] | rw [gI_pR])); exact hst
      · unfold TH; (repeat (first | rw [gI_same] | rw [gI_other _ _ (by omega)] | rw [gI_pL] | rw [gI_pB] | rw [gI_pR]))
      · unfold TH
        (repeat (first | rw [gI_same] | rw [gI_other _ _ (by omega)] | rw [gI_pL] | rw [gI_pB] | rw [gI_pR]))
        have : j = 0 ∨ j = 1 ∨ j = 2 := by omega
        rcases this with rfl | rfl | rfl
        · exact b0
        · exact b1
        · exact b2
      · have : j = 0 ∨ j = 1 ∨ j = 2 := by omega
        rcases this with rfl | rfl | rfl
        · exact a0
        · exact a1
        · exact a2
      · rw [s2, ← s1]; exact hst
      · have : j = 0 ∨ j = 1 ∨ j = 2 := by omega
        rcases this with rfl | rfl | rfl
        · exact c0
        · exact c1
        · exact c2
    · obtain ⟨v, l1, l2, l3⟩ := j65_st hB hP k (show e < 6 by omega) hs ht hc k0 k1 k2 hq ha hst
      rw [l3]
      refine ⟨TT S e a q (gI S 244 4 + 1) v, e, n, gI S 244 3, gI S 244 4 + 1, v, rfl, ⟨?_, ?_, ?_, ?_, ?_, fun i j hi hie => ?_, ?_, ?_, ?_, fun j hj => ?_⟩, he, hn, fun j _ => l1 j, Or.inr ⟨rfl, rfl, l2, Or.inl ⟨he, rfl, hk, ?_⟩⟩⟩
      · exact (((((((eqC.rf _ S).I _ (by simp [xCa])).I _ (by simp [xCa])).I _ (by simp only [xCa]; omega)).I _ (by simp only [xCa]; omega)).I _ (by simp only [xCa]; omega)).I _ (by simp only [xCa]; omega)).I _ (by simp only [xCa]; omega)
      · unfold TT; (repeat (first | rw [gI_same] | rw [gI_other _ _ (by omega)] | rw [gI_pL] | rw [gI_pB] | rw [gI_pR])); exact hn1
      · unfold TT; (repeat (first | rw [gI_same] | rw [gI_other _ _ (by omega)] | rw [gI_pL] | rw [gI_pB] | rw [gI_pR]))
      · unfold TT; (repeat (first | rw [gI_same] | rw [gI_other _ _ (by omega)] | rw [gI_pL] | rw [gI_pB] | rw [gI_pR]))
      · unfold TT; (repeat (first | rw [gI_same] | rw [gI_other _ _ (by omega)] | rw [gI_pL] | rw [gI_pB] | rw [gI_pR]))
      · unfold TT; (repeat (first | rw [gI_same] | rw [gI_other _ _ (by omega)] | rw [gI_pL] | rw [gI_pB] | rw [gI_pR]))
      · unfold TT
        refine ⟨?_, ?_, ?_⟩
        · (repeat (first | rw [gI_same] | rw [gI_other _ _ (by omega)] | rw [gI_pL] | rw [gI_pB] | rw [gI_pR])); exact k0
        · (repeat (first | rw [gI_same] | rw [gI_other _ _ (by omega)] | rw [gI_pL] | rw [gI_pB] | rw [gI_pR])); exact k1
        · (repeat (first | rw [gI_same] | rw [gI_other _ _ (by omega)] | rw [gI_pL] | rw [gI_pB] | rw [gI_pR])); exact k2
      · unfold TT; (repeat (first | rw [gI_same] | rw [gI_other _ _ (by omega)] | rw [gI_pL] | rw [gI_pB] | rw [gI_pR]))
      · unfold TT; (repeat (first | rw [gI_same] | rw [gI_other _ _ (by omega)] | rw [gI_pL] | rw [gI_pB] | rw [gI_pR]))
      · have : j = 0 ∨ j = 1 ∨ j = 2 := by omega
        unfold TT
        rcases this with rfl | rfl | rfl
        · (repeat (first | rw [gI_same] | rw [gI_other _ _ (by omega)] | rw [gI_pL] | rw [gI_pB] | rw [gI_pR]))
        · (repeat (first | rw [gI_same] | rw [gI_other _ _ (by omega)] | rw [gI_pL] | rw [gI_pB] | rw [gI_pR]))
        · (repeat (first | rw [gI_same] | rw [gI_other _ _ (by omega)] | rw [gI_pL] | rw [gI_pB] | rw [gI_pR]))
      · rw [s2, ← s1]; exact hst
  · rw [hf, Option.bind_some, if_pos rfl]
    have hfp : ∃ (S1 : CS) (e n' : Nat), cVectorCache_freePlace S = some (S1, nI e) ∧ e < n' ∧ n' ≤ 6 ∧ (S1 = pI S 244 1 (nI n')) ∧ ((n < 6 ∧ e = n ∧ n' = n + 1) ∨ (n = 6 ∧ e = am (gI M 29) 6 0 0 ∧ n' = 6)) := by
      unfold cVectorCache_freePlace
      rw [hn1]
      by_cases h6 : n < 6
      · rw [if_neg (show ¬ (6 : Int32) ≤ nI n from nI_ge (b := 6) h6 (by omega))]
        refine ⟨_, n, n + 1, ?_, by omega, by omega, rfl, Or.inl ⟨h6, rfl, rfl⟩⟩
        simp only [bd, nI_1, gI_same]
        rw [← nI_1, Int32.add_sub_cancel]
      · have h6' : n = 6 := by omega
        subst h6'
        rw [if_pos (show (6 : Int32) ≤ nI 6 by decide)]
        have hal := am_lt (gI M 29) 6 0 0 (by omega) (by omega)
        have hfe := fp_eq (S := S) (f := gI M 29) (fun i hi => (hE i hi).age) 5 1 (by omega) 600 0 (by omega) (by omega)
        have h0 : am (gI M 29) 6 0 0 = am (gI M 29) 5 1 0 := by
          rw [am, if_neg Int32.lt_irrefl]
        refine ⟨S, am (gI M 29) 6 0 0, 6, ?_, hal, by omega, ?_, Or.inr ⟨rfl, rfl, rfl⟩⟩
        · rw [h0]
          exact hfe
        · rw [← hn1]
          exact (pI_id S 244 1).symm
    obtain ⟨S1, e, n', f1, f2, f3, f4, f5⟩ := hfp
    have he : e < 6 := by omega
    subst f4
    rw [f1, Option.bind_some]
    simp only [bd, inb_nI he (show 6 < 2 ^ 31 by omega), if_true, tx_nI (show e < 2 ^ 31 by omega), show 245 + (1 + e) = 246 + e by omega]
    have eC : ∀ P : Nat → Nat → Prop, (¬ P 244 1) → (∀ j, ¬ P (246 + e) j) → eqC P S (NWE (pI S 244 1 (nI n')) e s t c) := fun P h1 h2 => (((((eqC.rf P S).I _ h1).I _ (h2 0)).I _ (h2 1)).I _ (h2 2)).I _ (h2 3)
    have hB1 := hB.fr (eC xBk (by simp [xBk]) (by simp only [xBk]; omega)) (eqC.rf _ M)
    have hP1 := hP.fr (eC (xPo (pcl β)) (by simp only [xPo]; omega) (by simp only [xPo]; omega)) (eqC.rf _ M)
    obtain ⟨v, l1, l2, l3⟩ := j65_st (S := NWE (pI S 244 1 (nI n')) e s t c) (q := q) (a := a) hB1 hP1 k he hs ht hc (by unfold NWE; (repeat (first | rw [gI_same] | rw [gI_other _ _ (by omega)] | rw [gI_pL] | rw [gI_pB] | rw [gI_pR]))) (by unfold NWE; (repeat (first | rw [gI_same] | rw [gI_other _ _ (by omega)] | rw [gI_pL] | rw [gI_pB] | rw [gI_pR]))) (by unfold NWE; (repeat (first | rw [gI_same] | rw [gI_other _ _ (by omega)] | rw [gI_pL] | rw [gI_pB] | rw [gI_pR]))) (by unfold NWE; (repeat (first | rw [gI_same] | rw [gI_other _ _ (by omega)] | rw [gI_pL] | rw [gI_pB] | rw [gI_pR])); exact hq) (by unfold NWE; (repeat (first | rw [gI_same] | rw [gI_other _ _ (by omega)] | rw [gI_pL] | rw [gI_pB] | rw [gI_pR])); exact ha) (by unfold NWE; (repeat (first | rw [gI_same] | rw [gI_other _ _ (by omega)] | rw [gI_pL] | rw [gI_pB] | rw [gI_pR])); exact fun z => ne_m1 hq0 z.symm)
    refine ⟨TT (NWE (pI S 244 1 (nI n')) e s t c) e a q (gI (NWE (pI S 244 1 (nI n')) e s t c) 244 4 + 1) v, e, n', gI S 244 3, gI S 244 4 + 1, v, l3, ⟨?_, ?_, ?_, ?_, ?_, fun i j hi hie => ?_, ?_, ?_, ?_, fun j hj => ?_⟩, f2, f3, fun j _ => l1 j, Or.inr ⟨rfl, rfl, l2, Or.inr ⟨hno, f5⟩⟩⟩
    · exact (eC (fun k j => ¬ xCa k j) (by simp [xCa]) (by simp only [xCa]; omega)).tr ((((((((eqC.rf _ _).I _ (by simp [xCa])).I _ (by simp [xCa])).I _ (by simp only [xCa]; omega)).I _ (by simp only [xCa]; omega)).I _ (by simp only [xCa]; omega)).I _ (by simp only [xCa]; omega)).I _ (by simp only [xCa]; omega))
    · unfold TT NWE; (repeat (first | rw [gI_same] | rw [gI_other _ _ (by omega)] | rw [gI_pL] | rw [gI_pB] | rw [gI_pR]))
    · unfold TT NWE; (repeat (first | rw [gI_same] | rw [gI_other _ _ (by omega)] | rw [gI_pL] | rw [gI_pB] | rw [gI_pR]))
    · unfold TT NWE; (repeat (first | rw [gI_same] | rw [gI_other _ _ (by omega)] | rw [gI_pL] | rw [gI_pB] | rw [gI_pR]))
    · unfold TT NWE; (repeat (first | rw [gI_same] | rw [gI_other _ _ (by omega)] | rw [gI_pL] | rw [gI_pB] | rw [gI_pR]))
    · unfold TT NWE; (repeat (first | rw [gI_same] | rw [gI_other _ _ (by omega)] | rw [gI_pL] | rw [gI_pB] | rw [gI_pR]))
    · unfold TT NWE
      refine ⟨?_, ?_, ?_⟩ <;> (repeat (first | rw [gI_same] | rw [gI_other _ _ (by omega)] | rw [gI_pL] | rw [gI_pB] | rw [gI_pR]))
    · unfold TT NWE; (repeat (first | rw [gI_same] | rw [gI_other _ _ (by omega)] | rw [gI_pL] | rw [gI_pB] | rw [gI_pR]))
    · unfold TT NWE; (repeat (first | rw [gI_same] | rw [gI_other _ _ (by omega)] | rw [gI_pL] | rw [gI_pB] | rw [gI_pR]))
    · have : j = 0 ∨ j = 1 ∨ j = 2 := by omega
      unfold TT NWE
      rcases this with rfl | rfl | rfl <;> (repeat (first | rw [gI_same] | rw [gI_other _ _ (by omega)] | rw [gI_pL] | rw [gI_pB] | rw [gI_pR]))
end IG
