/-! the promises -/
def shT (S : CS) (a x : Nat) : Prop := ∃ t, t < 12 ∧ ¬ (tgs S a t &&& tgs S x t = 0)
def shP (S : CS) (a x : Nat) : Prop := ∃ c, c < 4 ∧ ¬ (gI S (a + 3) c &&& gI S (x + 3) c = 0)
section KPR
variable {E : EnvR} {S S' : CS} {M M' : MS} {P pl : Nat → Nat}
theorem sht_c (a x : Nat) (S : CS) : ∃ b, cRule_sharesTypesWith a x S = some b ∧ (b = true ↔ shT S a x) := by
  have key : ∀ e c, c + e = 12 → ∀ f, e < f → ∃ b, cRule_sharesTypesWith_L2 a x S f (nI c) = some b ∧ (b = true ↔ ∃ t, c ≤ t ∧ t < 12 ∧ ¬ (tgs S a t &&& tgs S x t = 0)) := by
    intro e
    induction e with
    | zero =>
      intro c hc f hf
      obtain ⟨f, rfl⟩ := Nat.exists_eq_add_of_lt hf
      refine ⟨false, by rw [Nat.zero_add, cRule_sharesTypesWith_L2, if_pos (show (12 : Int32) ≤ nI c from nI_le (a := 12) (by omega) (by omega))], fun z => absurd z Bool.false_ne_true, fun ⟨t, h1, h2, _⟩ => by omega⟩
    | succ e ih =>
      intro c hc f hf
      obtain ⟨f, rfl⟩ := Nat.exists_eq_add_of_lt hf
      rw [cRule_sharesTypesWith_L2, if_neg (show ¬ (12 : Int32) ≤ nI c from nI_ge (b := 12) (by omega) (by omega)), tg_c (by omega), Option.bind_some, tg_c (by omega), Option.bind_some]
      simp only [bd]
      rw [nI_1]
      by_cases h : tgs S a c &&& tgs S x c = 0
      · rw [if_pos h]
        obtain ⟨b, b1, b2⟩ := ih (c + 1) (by omega) (e + 1 + f) (by omega)
        refine ⟨b, b1, b2.trans ⟨fun ⟨t, h1, h2, h3⟩ => ⟨t, by omega, h2, h3⟩, fun ⟨t, h1, h2, h3⟩ => ?_⟩⟩
        by_cases et : t = c
        · subst et; exact absurd h h3
        · exact ⟨t, by omega, h2, h3⟩
      · rw [if_neg h]
        exact ⟨true, rfl, fun _ => ⟨c, Nat.le_refl _, by omega, h⟩, fun _ => rfl⟩
  obtain ⟨b, b1, b2⟩ := key 12 0 (by omega) 600 (by omega)
  exact ⟨b, b1, b2.trans ⟨fun ⟨t, _, h2, h3⟩ => ⟨t, h2, h3⟩, fun ⟨t, h2, h3⟩ => ⟨t, by omega, h2, h3⟩⟩⟩
theorem shp_c (a x : Nat) (S : CS) : ∃ b, cRule_sharesPermissionsWith a x S = some b ∧ (b = true ↔ shP S a x) := by
  have key : ∀ e c, c + e = 4 → ∀ f, e < f → ∃ b, cRule_sharesPermissionsWith_L2 a x S f (nI c) = some b ∧ (b = true ↔ ∃ t, c ≤ t ∧ t < 4 ∧ ¬ (gI S (a + 3) t &&& gI S (x + 3) t = 0)) := by
    intro e
    induction e with
    | zero =>
      intro c hc f hf
      obtain ⟨f, rfl⟩ := Nat.exists_eq_add_of_lt hf
      refine ⟨false, by rw [Nat.zero_add, cRule_sharesPermissionsWith_L2, if_pos (show (4 : Int32) ≤ nI c from nI_le (a := 4) (by omega) (by omega))], fun z => absurd z Bool.false_ne_true, fun ⟨t, h1, h2, _⟩ => by omega⟩
    | succ e ih =>
      intro c hc f hf
      obtain ⟨f, rfl⟩ := Nat.exists_eq_add_of_lt hf
      rw [cRule_sharesPermissionsWith_L2, if_neg (show ¬ (4 : Int32) ≤ nI c from nI_ge (b := 4) (by omega) (by omega)), if_pos (inb_nI (show c < 4 by omega) (by omega)), if_pos (inb_nI (show c < 4 by omega) (by omega)), tx_nI (show c < 2 ^ 31 by omega)]
      simp only [bd]
      rw [nI_1]
      by_cases h : gI S (a + 3) c &&& gI S (x + 3) c = 0
      · rw [if_pos h]
        obtain ⟨b, b1, b2⟩ := ih (c + 1) (by omega) (e + 1 + f) (by omega)
        refine ⟨b, b1, b2.trans ⟨fun ⟨t, h1, h2, h3⟩ => ⟨t, by omega, h2, h3⟩, fun ⟨t, h1, h2, h3⟩ => ?_⟩⟩
        by_cases et : t = c
        · subst et; exact absurd h h3
        · exact ⟨t, by omega, h2, h3⟩
      · rw [if_neg h]
        exact ⟨true, rfl, fun _ => ⟨c, Nat.le_refl _, by omega, h⟩, fun _ => rfl⟩
  obtain ⟨b, b1, b2⟩ := key 4 0 (by omega) 600 (by omega)
  exact ⟨b, b1, b2.trans ⟨fun ⟨t, _, h2, h3⟩ => ⟨t, h2, h3⟩, fun ⟨t, h2, h3⟩ => ⟨t, by omega, h2, h3⟩⟩⟩
/-- what the reference finds of two rules -/
theorem mts {k k' r r' nt nb : Nat} (hr : r < 48) (hr' : r' < 48) (hR : RuR S M k r nt nb) (hR' : RuR S M k' r' nt nb) (fl : Bool) : ∃ b, m_meets (nI r) (nI r') fl M = some b ∧ (b = true ↔ (∃ c, c < 4 ∧ bt (gI S k 9) c = true ∧ bt (gI S k' 9) c = true ∧ (fl = true → ¬ (gI S (k + 3) c &&& gI S (k' + 3) c = 0))) ∧ shT S k k') := by
  have l99 : ∀ v4 : Bool, ∀ e c, c + e = 12 → ∀ f, e < f → ∀ v5 : Bool, ∃ b, m_meets_L99 (nI r) (nI r') v4 M f v5 (nI c) = some b ∧ (b = true ↔ v5 = true ∨ (v4 = true ∧ ∃ t, c ≤ t ∧ t < 12 ∧ ¬ (tgs S k t &&& tgs S k' t = 0))) := by
    intro v4 e
    induction e with
    | zero =>
      intro c hc f hf v5
      obtain ⟨f, rfl⟩ := Nat.exists_eq_add_of_lt hf
      refine ⟨v5, by rw [Nat.zero_add, m_meets_L99, if_pos (show (12 : Int32) ≤ nI c from nI_le (a := 12) (by omega) (by omega))], Or.inl, fun z => ?_⟩
      rcases z with z | ⟨-, t, h1, h2, -⟩
      · exact z
      · omega
    | succ e ih =>
      intro c hc f hf v5
      obtain ⟨f, rfl⟩ := Nat.exists_eq_add_of_lt hf
      rw [m_meets_L99, if_neg (show ¬ (12 : Int32) ≤ nI c from nI_ge (b := 12) (by omega) (by omega)), tg_m (by omega) hr hR, Option.bind_some, tg_m (by omega) hr' hR', Option.bind_some]
      simp only [bd]
      rw [nI_1]
      cases v4
      · rw [if_neg Bool.false_ne_true]
        exact ⟨v5, rfl, Or.inl, fun z => z.elim id (fun q => absurd q.1 Bool.false_ne_true)⟩
      · rw [if_pos rfl]
        cases v5
        · rw [if_neg Bool.false_ne_true]
          by_cases h : tgs S k c &&& tgs S k' c = 0
          · rw [if_pos h]
            obtain ⟨b, b1, b2⟩ := ih (c + 1) (by omega) (e + 1 + f) (by omega) false
            refine ⟨b, b1, b2.trans ⟨?_, ?_⟩⟩
            · rintro (z | ⟨z, t, h1, h2, h3⟩)
              · exact Or.inl z
              · exact Or.inr ⟨z, t, by omega, h2, h3⟩
            · rintro (z | ⟨z, t, h1, h2, h3⟩)
              · exact Or.inl z
              · by_cases et : t = c
                · subst et; exact absurd h h3
                · exact Or.inr ⟨z, t, by omega, h2, h3⟩
          · rw [if_neg h]
            obtain ⟨b, b1, b2⟩ := ih (c + 1) (by omega) (e + 1 + f) (by omega) true
            exact ⟨b, b1, b2.trans ⟨fun _ => Or.inr ⟨rfl, c, Nat.le_refl _, by omega, h⟩, fun _ => Or.inl rfl⟩⟩
        · rw [if_pos rfl]
          obtain ⟨b, b1, b2⟩ := ih (c + 1) (by omega) (e + 1 + f) (by omega) true
          exact ⟨b, b1, b2.trans ⟨fun _ => Or.inl rfl, fun _ => Or.inl rfl⟩⟩
  have hin : inbd (nI r) 48 = true := inb_nI hr (by omega)
  have hin' : inbd (nI r') 48 = true := inb_nI hr' (by omega)
  have htx : txN (nI r) = r := tx_nI (by omega)
  have htx' : txN (nI r') = r' := tx_nI (by omega)
  have l6 : ∀ e c, c + e = 4 → ∀ f, e < f → ∀ v4 : Bool, ∃ b, m_meets_L6 (nI r) (nI r') fl M f v4 (nI c) = some b ∧ (b = true ↔ (v4 = true ∨ ∃ c', c ≤ c' ∧ c' < 4 ∧ bt (gI S k 9) c' = true ∧ bt (gI S k' 9) c' = true ∧ (fl = true → ¬ (gI S (k + 3) c' &&& gI S (k' + 3) c' = 0))) ∧ shT S k k') := by
    intro e
    induction e with
    | zero =>
      intro c hc f hf v4
      obtain ⟨f, rfl⟩ := Nat.exists_eq_add_of_lt hf
      rw [Nat.zero_add, m_meets_L6, if_pos (show (4 : Int32) ≤ nI c from nI_le (a := 4) (by omega) (by omega))]
      obtain ⟨b, b1, b2⟩ := l99 v4 12 0 (by omega) 600 (by omega) false
      refine ⟨b, b1, b2.trans ⟨?_, ?_⟩⟩
      · rintro (z | ⟨z, t, h1, h2, h3⟩)
        · exact absurd z Bool.false_ne_true
        · exact ⟨Or.inl z, t, h2, h3⟩
      · rintro ⟨z | ⟨c', h1, h2, -⟩, t, t1, t2⟩
        · exact Or.inr ⟨z, t, by omega, t1, t2⟩
        · omega
    | succ e ih =>
      intro c hc f hf v4
      obtain ⟨f, rfl⟩ := Nat.exists_eq_add_of_lt hf
      have r4 := r4x (r := r) (c := c) hr (by omega)
      have r4' := r4x (r := r') (c := c) hr' (by omega)
      obtain ⟨v, -, p2, p3, -⟩ := hR.perm c (by omega)
      obtain ⟨v', -, q2, q3, -⟩ := hR'.perm c (by omega)
      have hz : ((gI M 16 r &&& gI M 16 r') &&& ((1 : Int32) <<< (nI c &&& 31)) = 0) ↔ ¬ (bt (gI S k 9) c = true ∧ bt (gI S k' 9) c = true) := by
        rw [← hR.cls, ← hR'.cls]
        constructor
        · intro h z
          have : bt ((gI S k 9 &&& gI S k' 9) &&& ((1 : Int32) <<< (nI c &&& 31))) c = false := by rw [h, b_0]
          rw [b_and, b_and, z.1, z.2, b_sh1 (by omega) (by omega)] at this
          simp at this
        · intro h
          refine b_ext (fun i hi => ?_)
          rw [b_and, b_and, b_sh1 (by omega) hi, b_0]
          by_cases ei : i = c
          · subst ei
            rw [decide_eq_true rfl, Bool.and_true]
            cases h1 : bt (gI S k 9) i
            · rfl
            · cases h2 : bt (gI S k' 9) i
              · rfl
              · exact absurd ⟨h1, h2⟩ h
          · rw [decide_eq_false ei, Bool.and_false]
      have nxt : ∀ w : Bool, (w = true ↔ v4 = true ∨ (bt (gI S k 9) c = true ∧ bt (gI S k' 9) c = true ∧ (fl = true → ¬ (gI S (k + 3) c &&& gI S (k' + 3) c = 0)))) → ∃ b, m_meets_L6 (nI r) (nI r') fl M (e + 1 + f) w (nI (c + 1)) = some b ∧ (b = true ↔ (v4 = true ∨ ∃ c', c ≤ c' ∧ c' < 4 ∧ bt (gI S k 9) c' = true ∧ bt (gI S k' 9) c' = true ∧ (fl = true → ¬ (gI S (k + 3) c' &&& gI S (k' + 3) c' = 0))) ∧ shT S k k') := by
        intro w hw
        obtain ⟨b, b1, b2⟩ := ih (c + 1) (by omega) (e + 1 + f) (by omega) w
        refine ⟨b, b1, b2.trans (and_congr_left (fun _ => ?_))⟩
        rw [hw]
        constructor
        · rintro ((z | z) | ⟨c', h1, h2, h3⟩)
          · exact Or.inl z
          · exact Or.inr ⟨c, Nat.le_refl _, by omega, z⟩
          · exact Or.inr ⟨c', by omega, h2, h3⟩
        · rintro (z | ⟨c', h1, h2, h3⟩)
          · exact Or.inl (Or.inl z)
          · by_cases ec : c' = c
            · subst ec; exact Or.inl (Or.inr h3)
            · exact Or.inr ⟨c', by omega, h2, h3⟩
      rw [m_meets_L6, if_neg (show ¬ (4 : Int32) ≤ nI c from nI_ge (b := 4) (by omega) (by omega)), if_pos hin, if_pos hin', htx, htx']
      unfold m_meets_J38
      simp only [bd]
      simp only [if_pos r4.1, if_pos r4'.1, r4.2, r4'.2, nI_1]
      rw [p3, q3, ← p2, ← q2]
      by_cases h4 : v4 = true
      · simp only [if_pos h4]
        have := nxt true (by simp [h4])
        split <;> exact this
      · simp only [if_neg h4]
        by_cases hcl : bt (gI S k 9) c = true ∧ bt (gI S k' 9) c = true
        · rw [if_neg (fun z => hz.mp z hcl), if_pos trivial]
          by_cases hf : fl = true
          · rw [if_pos hf]
            by_cases hpp : gI S (k + 3) c &&& gI S (k' + 3) c = 0
            · rw [if_pos hpp]
              exact nxt false (by simp [h4, hf, hpp])
            · rw [if_neg hpp]
              exact nxt true (by simp [hcl.1, hcl.2, hpp])
          · rw [if_neg hf]
            exact nxt true (by simp [hcl.1, hcl.2, hf])
        · rw [if_pos (hz.mpr hcl), if_neg Bool.false_ne_true]
          refine nxt false ⟨fun z => absurd z Bool.false_ne_true, fun z => ?_⟩
          rcases z with z | z
          · exact absurd z h4
          · exact absurd ⟨z.1, z.2.1⟩ hcl
  obtain ⟨b, b1, b2⟩ := l6 4 0 (by omega) 600 (by omega) false
  refine ⟨b, b1, b2.trans (and_congr_left (fun _ => ?_))⟩
  constructor
  · rintro (z | ⟨c', -, h2⟩)
    · exact absurd z Bool.false_ne_true
    · exact ⟨c', h2⟩
  · rintro ⟨c', h2⟩
    exact Or.inr ⟨c', by omega, h2⟩
end KPR
