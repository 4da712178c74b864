/-! the sets are settled -/
theorem and15 (z : Int32) : z &&& 15 = 0 ↔ ∀ a, a < 4 → bt z a = false := by
  have b15 : ∀ i, i < 32 → bt 15 i = decide (i < 4) := by decide +kernel
  constructor
  · intro h a ha
    have : bt (z &&& 15) a = false := by rw [h, b_0]
    rw [b_and, b15 a (by omega), decide_eq_true ha, Bool.and_true] at this
    exact this
  · intro h
    refine b_ext (fun i hi => ?_)
    rw [b_and, b15 i hi, b_0]
    by_cases g : i < 4
    · rw [h i g, Bool.false_and]
    · rw [decide_eq_false g, Bool.and_false]
theorem b_4095 : ∀ i, i < 32 → bt 4095 i = decide (i < 12) := by decide +kernel
section STT
variable {S S' : CS} {M M' : MS} {d b : Nat} {P : Nat → Nat}
theorem memb (d : Nat) (x : Int32) (S : CS) : ∃ y, cPolicy_membersOf d x S = some y ∧ ∀ t, bt y t = true ↔ ∃ a, a < 4 ∧ bt x a = true ∧ bt (gI S (d + 10) a) t = true := by
  have key : ∀ e c, c + e = 4 → ∀ f, e < f → ∀ acc, ∃ y, cPolicy_membersOf_L4 d x S f acc (nI c) = some y ∧ ∀ t, bt y t = true ↔ bt acc t = true ∨ ∃ a, c ≤ a ∧ a < 4 ∧ bt x a = true ∧ bt (gI S (d + 10) a) t = true := by
    intro e
    induction e with
    | zero =>
      intro c hc f hf acc
      obtain ⟨f, rfl⟩ := Nat.exists_eq_add_of_lt hf
      refine ⟨acc, by rw [Nat.zero_add, cPolicy_membersOf_L4, if_pos (show (4 : Int32) ≤ nI c from nI_le (a := 4) (by omega) (by omega))], fun t => ⟨Or.inl, fun h => ?_⟩⟩
      rcases h with h | ⟨a, h1, h2, -⟩
      · exact h
      · omega
    | succ e ih =>
      intro c hc f hf acc
      obtain ⟨f, rfl⟩ := Nat.exists_eq_add_of_lt hf
      rw [cPolicy_membersOf_L4, if_neg (show ¬ (4 : Int32) ≤ nI c from nI_ge (b := 4) (by omega) (by omega)), hb_eq _ (by omega), Option.bind_some, if_pos (inb_nI (show c < 4 by omega) (by omega)), tx_nI (show c < 2 ^ 31 by omega)]
      simp only [bd]
      rw [nI_1]
      by_cases hbit : bt x c = true
      · rw [if_pos hbit]
        obtain ⟨y, y1, y2⟩ := ih (c + 1) (by omega) (e + 1 + f) (by omega) (acc ||| gI S (d + 10) c)
        refine ⟨y, y1, fun t => ?_⟩
        rw [y2 t, b_or, Bool.or_eq_true]
        constructor
        · rintro ((h | h) | ⟨a, h1, h2, h3⟩)
          · exact Or.inl h
          · exact Or.inr ⟨c, Nat.le_refl _, by omega, hbit, h⟩
          · exact Or.inr ⟨a, by omega, h2, h3⟩
        · rintro (h | ⟨a, h1, h2, h3, h4⟩)
          · exact Or.inl (Or.inl h)
          · by_cases ea : a = c
            · subst ea
              exact Or.inl (Or.inr h4)
            · exact Or.inr ⟨a, by omega, h2, h3, h4⟩
      · rw [if_neg hbit]
        obtain ⟨y, y1, y2⟩ := ih (c + 1) (by omega) (e + 1 + f) (by omega) acc
        refine ⟨y, y1, fun t => ?_⟩
        rw [y2 t]
        constructor
        · rintro (h | ⟨a, h1, h2, h3⟩)
          · exact Or.inl h
          · exact Or.inr ⟨a, by omega, h2, h3⟩
        · rintro (h | ⟨a, h1, h2, h3, h4⟩)
          · exact Or.inl h
          · by_cases ea : a = c
            · subst ea
              exact absurd h3 hbit
            · exact Or.inr ⟨a, by omega, h2, h3, h4⟩
  obtain ⟨y, y1, y2⟩ := key 4 0 (by omega) 600 (by omega) 0
  refine ⟨y, y1, fun t => ?_⟩
  rw [y2 t, b_0]
  constructor
  · rintro (h | ⟨a, h1, h2, h3⟩)
    · exact absurd h Bool.false_ne_true
    · exact ⟨a, h2, h3⟩
  · rintro ⟨a, h2, h3⟩
    exact Or.inr ⟨a, by omega, h2, h3⟩
theorem unio (hb : b ≤ 1) {n : Nat} (hn : n ≤ 12) (h2 : gI M 2 (5 * b) = nI n) (x : Int32) : ∃ y, m_union (nI b) x M = some y ∧ ∀ t, t < 32 → (bt y t = true ↔ (t < 12 ∧ bt x t = true) ∨ (t < n ∧ ∃ a, a < 4 ∧ bt (gI M 8 (12 * b + t)) a = true ∧ bt x (12 + a) = true)) := by
  have key : ∀ e c, c + e = n → ∀ f, e < f → ∀ acc, ∃ y, m_union_L9 (nI b) x M f acc (nI c) = some y ∧ ∀ t, t < 32 → (bt y t = true ↔ bt acc t = true ∨ (c ≤ t ∧ t < n ∧ ∃ a, a < 4 ∧ bt (gI M 8 (12 * b + t)) a = true ∧ bt x (12 + a) = true)) := by
    intro e
    induction e with
    | zero =>
      intro c hc f hf acc
      obtain ⟨f, rfl⟩ := Nat.exists_eq_add_of_lt hf
      refine ⟨acc, by rw [Nat.zero_add, m_union_L9, if_pos (bk50 hb).1, (bk50 hb).2, h2, if_pos (nI_le (by omega) (by omega))], fun t ht => ⟨Or.inl, fun h => ?_⟩⟩
      rcases h with h | ⟨h1, h2, -⟩
      · exact h
      · omega
    | succ e ih =>
      intro c hc f hf acc
      obtain ⟨f, rfl⟩ := Nat.exists_eq_add_of_lt hf
      have hz : (((gI M 8 (12 * b + c)) &&& (x >>> ((12 : Int32) &&& 31))) &&& 15 = 0) ↔ ∀ a, a < 4 → ¬ (bt (gI M 8 (12 * b + c)) a = true ∧ bt x (12 + a) = true) := by
        rw [and15]
        refine forall_congr' (fun a => forall_congr' (fun ha => ?_))
        rw [b_and, show bt (x >>> ((12 : Int32) &&& 31)) a = bt x (12 + a) by rw [show bt (x >>> ((12 : Int32) &&& 31)) a = bt (x >>> (nI 12 &&& 31)) a from rfl, b_sshr 12 (by omega) x (by omega), if_pos (by omega)], Bool.and_eq_false_iff]
        cases bt (gI M 8 (12 * b + c)) a <;> cases bt x (12 + a) <;> decide
      rw [m_union_L9, if_pos (bk50 hb).1, (bk50 hb).2, h2, if_neg (nI_ge (by omega) (by omega)), if_pos (bk12 hb (c := c) (by omega)).1, (bk12 hb (c := c) (by omega)).2]
      simp only [bd]
      rw [nI_1]
      by_cases hbit : ∀ a, a < 4 → ¬ (bt (gI M 8 (12 * b + c)) a = true ∧ bt x (12 + a) = true)
      · rw [if_pos (hz.mpr hbit)]
        obtain ⟨y, y1, y2⟩ := ih (c + 1) (by omega) (e + 1 + f) (by omega) acc
        refine ⟨y, y1, fun t ht => ?_⟩
        rw [y2 t ht]
        constructor
        · rintro (h | ⟨h1, h2, h3⟩)
          · exact Or.inl h
          · exact Or.inr ⟨by omega, h2, h3⟩
        · rintro (h | ⟨h1, h2, a, h3, h4⟩)
          · exact Or.inl h
          · by_cases et : t = c
            · subst et
              exact absurd h4 (hbit a h3)
            · exact Or.inr ⟨by omega, h2, a, h3, h4⟩
      · rw [if_neg (fun z => hbit (hz.mp z))]
        obtain ⟨y, y1, y2⟩ := ih (c + 1) (by omega) (e + 1 + f) (by omega) (acc ||| ((1 : Int32) <<< (nI c &&& 31)))
        refine ⟨y, y1, fun t ht => ?_⟩
        have hex : ∃ a, a < 4 ∧ bt (gI M 8 (12 * b + c)) a = true ∧ bt x (12 + a) = true := by
          apply Classical.byContradiction
          intro z
          exact hbit (fun a ha q => z ⟨a, ha, q⟩)
        rw [y2 t ht, b_or, Bool.or_eq_true, b_sh1 (by omega) ht, decide_eq_true_iff]
        constructor
        · rintro ((h | h) | ⟨h1, h2, h3⟩)
          · exact Or.inl h
          · subst h
            exact Or.inr ⟨Nat.le_refl _, by omega, hex⟩
          · exact Or.inr ⟨by omega, h2, h3⟩
        · rintro (h | ⟨h1, h2, h3⟩)
          · exact Or.inl (Or.inl h)
          · by_cases et : t = c
            · exact Or.inl (Or.inr et)
            · exact Or.inr ⟨by omega, h2, h3⟩
  unfold m_union
  simp only [bd]
  obtain ⟨y, y1, y2⟩ := key n 0 (by omega) 600 (by omega) (x &&& 4095)
  refine ⟨y, y1, fun t ht => ?_⟩
  rw [y2 t ht, b_and, b_4095 t ht, Bool.and_eq_true, decide_eq_true_iff]
  constructor
  · rintro (h | ⟨h1, h2, h3⟩)
    · exact Or.inl ⟨h.2, h.1⟩
    · exact Or.inr ⟨h2, h3⟩
  · rintro (h | ⟨h2, h3⟩)
    · exact Or.inl ⟨h.2, h.1⟩
    · exact Or.inr ⟨by omega, h2, h3⟩
theorem ts_some (d q : Nat) (S : CS) : ∃ y, cPolicy_typesOf d q S = some y := by
  obtain ⟨y1, e1, -⟩ := memb d (gI S q 3) S
  obtain ⟨y2, e2, -⟩ := memb d (gI S q 5) S
  unfold cPolicy_typesOf cPolicy_typesOf_J55 cNames_allBits
  rw [Option.bind_some, e1, Option.bind_some]
  simp only [bd]
  rw [e2, Option.bind_some]
  split
  · split <;> exact ⟨_, rfl⟩
  · split <;> exact ⟨_, rfl⟩
/-- both make the same of a set -/
theorem res_eq (hb : b ≤ 1) {n q s : Nat} (hn : n ≤ 12) (h1 : gI S (d + 1) 1 = nI n) (h2 : gI M 2 (5 * b) = nI n) (hmb : ∀ a, a < 4 → ∀ t, t < 32 → bt (gI S (d + 10) a) t = (decide (t < n) && bt (gI M 8 (12 * b + t)) a)) (hs : s < 96) (hS : SetR S M q s) : ∃ y, cPolicy_typesOf d q S = some y ∧ m_resolve (nI b) (nI s) M = some y := by
  obtain ⟨g1, g2, g3, g4, g5, g6⟩ := hS
  have un : ∀ (v w x : Int32), (∀ i, i < 32 → bt v i = (decide (i < 12) && bt x i)) → (∀ i, i < 32 → bt w i = (decide (i < 4) && bt x (12 + i))) → ∃ y z, cPolicy_membersOf d w S = some y ∧ m_union (nI b) x M = some z ∧ v ||| y = z := by
    intro v w x hv hw
    obtain ⟨y, y1, y2⟩ := memb d w S
    obtain ⟨z, z1, z2⟩ := unio hb hn h2 x
    refine ⟨y, z, y1, z1, b_ext (fun t ht => ?_)⟩
    rw [Bool.eq_iff_iff, b_or, Bool.or_eq_true, y2 t, z2 t ht, hv t ht, Bool.and_eq_true, decide_eq_true_iff]
    refine or_congr Iff.rfl ⟨?_, ?_⟩
    · rintro ⟨a, a1, a2, a3⟩
      rw [hw a (by omega), Bool.and_eq_true] at a2
      rw [hmb a a1 t ht, Bool.and_eq_true, decide_eq_true_iff] at a3
      exact ⟨a3.1, a, a1, a3.2, a2.2⟩
    · rintro ⟨t1, a, a1, a2, a3⟩
      refine ⟨a, a1, ?_, ?_⟩
      · rw [hw a (by omega), decide_eq_true a1, a3]; rfl
      · rw [hmb a a1 t ht, decide_eq_true t1, a2]; rfl
  obtain ⟨ya, za, a1, a2, a3⟩ := un _ _ _ g3 g4
  obtain ⟨yr, zr, r1, r2, r3⟩ := un _ _ _ g5 g6
  have hi : inbd (nI s) 96 = true := inb_nI hs (by omega)
  have hx : txN (nI s) = s := tx_nI (by omega)
  have e17 : (((gI M 21 s) >>> ((17 : Int32) &&& 31)) &&& 1 = 1) ↔ gB S q 1 = true := by rw [g2]; exact bit_s1 (gI M 21 s) (j := 17) (by omega)
  have e16 : (((gI M 21 s) >>> ((16 : Int32) &&& 31)) &&& 1 = 1) ↔ gB S q 0 = true := by rw [g1]; exact bit_s1 (gI M 21 s) (j := 16) (by omega)
  have jj : ∀ a c : Int32, ∃ y, cPolicy_typesOf_J55 q a c S = some y ∧ m_resolve_J57 (nI s) a c M = some y := by
    intro a c
    unfold cPolicy_typesOf_J55 m_resolve_J57
    rw [if_pos hi, hx]
    by_cases h : gB S q 0 = true
    · rw [if_pos h, if_pos (e16.mpr h)]
      exact ⟨_, rfl, rfl⟩
    · rw [if_neg h, if_neg (fun z => h (e16.mp z))]
      exact ⟨_, rfl, rfl⟩
  unfold cPolicy_typesOf m_resolve cNames_allBits
  simp only [bd]
  rw [Option.bind_some, if_pos (bk50 hb).1, (bk50 hb).2, h1, h2, if_pos hi, hx, a1, Option.bind_some, r1, Option.bind_some, a2, Option.bind_some, r2, Option.bind_some, if_pos hi, if_pos hi, a3, r3]
  by_cases h : gB S q 1 = true
  · rw [if_pos h, if_pos (e17.mpr h)]
    exact jj _ _
  · rw [if_neg h, if_neg (fun z => h (e17.mp z))]
    exact jj _ _
theorem ts_cg {q : Nat} (h1 : gI S' (d + 1) 1 = gI S (d + 1) 1) (h2 : ∀ a, a < 4 → gI S' (d + 10) a = gI S (d + 10) a) (h3 : ∀ j, gI S' q j = gI S q j ∨ 5 < j) (h4 : ∀ j, gB S' q j = gB S q j) : cPolicy_typesOf d q S' = cPolicy_typesOf d q S := by
  have mm : ∀ x, cPolicy_membersOf d x S' = cPolicy_membersOf d x S := by
    intro x
    obtain ⟨y, y1, y2⟩ := memb d x S'
    obtain ⟨z, z1, z2⟩ := memb d x S
    rw [y1, z1]
    congr 1
    refine b_ext (fun t _ => ?_)
    rw [Bool.eq_iff_iff, y2, z2]
    constructor
    · rintro ⟨a, a1, a2, a3⟩
      exact ⟨a, a1, a2, by rw [← h2 a a1]; exact a3⟩
    · rintro ⟨a, a1, a2, a3⟩
      exact ⟨a, a1, a2, by rw [h2 a a1]; exact a3⟩
  have i2 := (h3 2).resolve_right (by omega)
  have i3 := (h3 3).resolve_right (by omega)
  have i4 := (h3 4).resolve_right (by omega)
  have i5 := (h3 5).resolve_right (by omega)
  unfold cPolicy_typesOf cPolicy_typesOf_J55 cNames_allBits
  rw [h1, i2, i3, i4, i5, h4, h4, mm, mm]
theorem rs_cg (hb : b ≤ 1) {n s : Nat} (hn : n ≤ 12) (hs : s < 96) (h0 : gI M 2 (5 * b) = nI n) (h1 : gI M' 2 (5 * b) = gI M 2 (5 * b)) (h2 : ∀ t, t < 12 → gI M' 8 (12 * b + t) = gI M 8 (12 * b + t)) (h3 : gI M' 21 s = gI M 21 s) (h4 : gI M' 22 s = gI M 22 s) : m_resolve (nI b) (nI s) M' = m_resolve (nI b) (nI s) M := by
  have mm : ∀ x, m_union (nI b) x M' = m_union (nI b) x M := by
    intro x
    obtain ⟨y, y1, y2⟩ := unio hb hn (h1.trans h0) x
    obtain ⟨z, z1, z2⟩ := unio hb hn h0 x
    rw [y1, z1]
    congr 1
    refine b_ext (fun t ht => ?_)
    rw [Bool.eq_iff_iff, y2 t ht, z2 t ht]
    refine or_congr Iff.rfl (and_congr_right (fun tn => ?_))
    rw [h2 t (by omega)]
  have hx : txN (nI s) = s := tx_nI (by omega)
  unfold m_resolve m_resolve_J57
  rw [(bk50 hb).2, hx, h1, h3, h4, mm, mm]
end STT
