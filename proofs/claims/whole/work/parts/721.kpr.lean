def Kr (E : EnvR) (r : Nat) : Nat := eD E + 21 + 4 * r
def Hd (E : EnvR) (S : CS) (r : Nat) : Prop := gR S (Kr E r) 0 = 9 ∧ ∃ r', r' < r ∧ gR S (Kr E r') 0 = 9 ∧ ¬ gI S (Kr E r') 11 = gI S (Kr E r) 11 ∧ ¬ (gI S (Kr E r') 9 &&& gI S (Kr E r) 9 = 0) ∧ shT S (Kr E r') (Kr E r)
def Hb (E : EnvR) (n : Nat) (S : CS) (r : Nat) : Prop := gR S (Kr E r) 0 = 8 ∧ ∃ r', r' < n ∧ gR S (Kr E r') 0 = 5 ∧ shP S (Kr E r') (Kr E r) ∧ shT S (Kr E r') (Kr E r)
section KP2
variable {E : EnvR} {S S' : CS} {M M' : MS} {P pl : Nat → Nat}
theorem Rdy.k5 (h : Rdy E P pl S M) {r : Nat} (hr : r < P 4) : gR S (Kr E r) 0 < 15 := by
  obtain ⟨w, w1, w2, -⟩ := (h.ru r hr).kind
  unfold Kr
  omega
theorem dis_c (hE : Ew E) (h : Rdy E P pl S M) {r : Nat} (hr : r < P 4) : ∃ b, cPolicy_isDisputed (eD E) (Kr E r) S = some b ∧ (b = true ↔ ∃ r', r' < r ∧ gR S (Kr E r') 0 = 9 ∧ ¬ gI S (Kr E r') 11 = gI S (Kr E r) 11 ∧ ¬ (gI S (Kr E r') 9 &&& gI S (Kr E r) 9 = 0) ∧ shT S (Kr E r') (Kr E r)) := by
  have l4 := h.lm.2.2.2
  have key : ∀ e c, c + e = P 4 → ∀ f, e < f → ∃ b, cPolicy_isDisputed_L2 (eD E) (Kr E r) S f (nI c) = some b ∧ (b = true ↔ ∃ r', c ≤ r' ∧ r' < r ∧ gR S (Kr E r') 0 = 9 ∧ ¬ gI S (Kr E r') 11 = gI S (Kr E r) 11 ∧ ¬ (gI S (Kr E r') 9 &&& gI S (Kr E r) 9 = 0) ∧ shT S (Kr E r') (Kr E r)) := by
    intro e
    induction e with
    | zero =>
      intro c hc f hf
      obtain ⟨f, rfl⟩ := Nat.exists_eq_add_of_lt hf
      exact ⟨false, by rw [Nat.zero_add, cPolicy_isDisputed_L2, h.r.1, if_pos (nI_le (by omega) (by omega))], fun z => absurd z Bool.false_ne_true, fun ⟨r', h1, h2, _⟩ => by omega⟩
    | succ e ih =>
      intro c hc f hf
      obtain ⟨f, rfl⟩ := Nat.exists_eq_add_of_lt hf
      obtain ⟨b, b1, b2⟩ := ih (c + 1) (by omega) (e + 1 + f) (by omega)
      have skip : ¬ (c < r ∧ gR S (Kr E c) 0 = 9 ∧ ¬ gI S (Kr E c) 11 = gI S (Kr E r) 11 ∧ ¬ (gI S (Kr E c) 9 &&& gI S (Kr E r) 9 = 0) ∧ shT S (Kr E c) (Kr E r)) → ∃ b, cPolicy_isDisputed_L2 (eD E) (Kr E r) S (e + 1 + f) (nI (c + 1)) = some b ∧ (b = true ↔ ∃ r', c ≤ r' ∧ r' < r ∧ gR S (Kr E r') 0 = 9 ∧ ¬ gI S (Kr E r') 11 = gI S (Kr E r) 11 ∧ ¬ (gI S (Kr E r') 9 &&& gI S (Kr E r) 9 = 0) ∧ shT S (Kr E r') (Kr E r)) := by
        intro hn
        refine ⟨b, b1, b2.trans ⟨fun ⟨r', h1, h2⟩ => ⟨r', by omega, h2⟩, fun ⟨r', h1, h2⟩ => ?_⟩⟩
        by_cases er : r' = c
        · subst er; exact absurd h2 hn
        · exact ⟨r', by omega, h2⟩
      have e1 : eD E + 12 + (9 + 4 * c) = Kr E c := by unfold Kr; omega
      have p1 := h.pl c (by omega)
      have p2 := h.pl r hr
      rw [cPolicy_isDisputed_L2, h.r.1, if_neg (nI_ge (by omega) (by omega)), if_pos (inb_nI (show c < 24 by omega) (by omega)), tx_nI (show c < 2 ^ 31 by omega), e1]
      simp only [bd]
      rw [if_pos (h.k5 (by omega)), nI_1, show gI S (Kr E c) 1 = nI (pl c) from p1.1, show gI S (Kr E r) 1 = nI (pl r) from p2.1]
      by_cases g9 : gR S (Kr E c) 0 = 9
      · rw [if_pos g9]
        by_cases gp : pl r ≤ pl c
        · rw [if_pos (nI_le gp (by omega))]
          refine skip (fun z => ?_)
          have := h.po c r z.1 hr
          omega
        · rw [if_neg (nI_ge (by omega) (by omega))]
          by_cases gt : gI S (Kr E c) 11 = gI S (Kr E r) 11
          · rw [if_pos gt]
            exact skip (fun z => z.2.2.1 gt)
          · rw [if_neg gt]
            by_cases gc : gI S (Kr E c) 9 &&& gI S (Kr E r) 9 = 0
            · rw [if_pos gc]
              exact skip (fun z => z.2.2.2.1 gc)
            · rw [if_neg gc]
              obtain ⟨s, s1, s2⟩ := sht_c (Kr E c) (Kr E r) S
              rw [s1, Option.bind_some]
              cases s
              · rw [if_neg Bool.false_ne_true]
                exact skip (fun z => absurd (s2.mpr z.2.2.2.2) Bool.false_ne_true)
              · rw [if_pos rfl]
                refine ⟨true, rfl, fun _ => ⟨c, Nat.le_refl _, ?_, g9, gt, gc, s2.mp rfl⟩, fun _ => rfl⟩
                rcases Nat.lt_or_ge c r with q | q
                · exact q
                · rcases Nat.lt_or_ge r c with q2 | q2
                  · have := h.po r c q2 (by omega)
                    omega
                  · have : c = r := by omega
                    subst this
                    omega
      · rw [if_neg g9]
        exact skip (fun z => g9 z.2.1)
  obtain ⟨b, b1, b2⟩ := key (P 4) 0 (by omega) 600 (by omega)
  exact ⟨b, b1, b2.trans ⟨fun ⟨r', _, h2⟩ => ⟨r', h2⟩, fun ⟨r', h2⟩ => ⟨r', by omega, h2⟩⟩⟩
theorem brk_c (hE : Ew E) (h : Rdy E P pl S M) (x : Nat) : ∃ b, cPolicy_isBroken (eD E) x S = some b ∧ (b = true ↔ ∃ r', r' < P 4 ∧ gR S (Kr E r') 0 = 5 ∧ shP S (Kr E r') x ∧ shT S (Kr E r') x) := by
  have l4 := h.lm.2.2.2
  have key : ∀ e c, c + e = P 4 → ∀ f, e < f → ∃ b, cPolicy_isBroken_L2 (eD E) x S f (nI c) = some b ∧ (b = true ↔ ∃ r', c ≤ r' ∧ r' < P 4 ∧ gR S (Kr E r') 0 = 5 ∧ shP S (Kr E r') x ∧ shT S (Kr E r') x) := by
    intro e
    induction e with
    | zero =>
      intro c hc f hf
      obtain ⟨f, rfl⟩ := Nat.exists_eq_add_of_lt hf
      exact ⟨false, by rw [Nat.zero_add, cPolicy_isBroken_L2, h.r.1, if_pos (nI_le (by omega) (by omega))], fun z => absurd z Bool.false_ne_true, fun ⟨r', h1, h2, _⟩ => by omega⟩
    | succ e ih =>
      intro c hc f hf
      obtain ⟨f, rfl⟩ := Nat.exists_eq_add_of_lt hf
      obtain ⟨b, b1, b2⟩ := ih (c + 1) (by omega) (e + 1 + f) (by omega)
      have skip : ¬ (gR S (Kr E c) 0 = 5 ∧ shP S (Kr E c) x ∧ shT S (Kr E c) x) → ∃ b, cPolicy_isBroken_L2 (eD E) x S (e + 1 + f) (nI (c + 1)) = some b ∧ (b = true ↔ ∃ r', c ≤ r' ∧ r' < P 4 ∧ gR S (Kr E r') 0 = 5 ∧ shP S (Kr E r') x ∧ shT S (Kr E r') x) := by
        intro hn
        refine ⟨b, b1, b2.trans ⟨fun ⟨r', h1, h2⟩ => ⟨r', by omega, h2⟩, fun ⟨r', h1, h2, h3⟩ => ?_⟩⟩
        by_cases er : r' = c
        · subst er; exact absurd h3 hn
        · exact ⟨r', by omega, h2, h3⟩
      have e1 : eD E + 12 + (9 + 4 * c) = Kr E c := by unfold Kr; omega
      rw [cPolicy_isBroken_L2, h.r.1, if_neg (nI_ge (by omega) (by omega)), if_pos (inb_nI (show c < 24 by omega) (by omega)), tx_nI (show c < 2 ^ 31 by omega), e1]
      simp only [bd]
      rw [if_pos (h.k5 (by omega)), nI_1]
      by_cases g5 : gR S (Kr E c) 0 = 5
      · rw [if_pos g5]
        obtain ⟨p, p1, p2⟩ := shp_c (Kr E c) x S
        obtain ⟨s, s1, s2⟩ := sht_c (Kr E c) x S
        rw [p1, Option.bind_some, s1, Option.bind_some]
        cases p
        · rw [if_neg Bool.false_ne_true]
          exact skip (fun z => absurd (p2.mpr z.2.1) Bool.false_ne_true)
        · rw [if_pos rfl]
          cases s
          · rw [if_neg Bool.false_ne_true]
            exact skip (fun z => absurd (s2.mpr z.2.2) Bool.false_ne_true)
          · rw [if_pos rfl]
            exact ⟨true, rfl, fun _ => ⟨c, Nat.le_refl _, by omega, g5, p2.mp rfl, s2.mp rfl⟩, fun _ => rfl⟩
      · rw [if_neg g5]
        exact skip (fun z => g5 z.1)
  obtain ⟨b, b1, b2⟩ := key (P 4) 0 (by omega) 600 (by omega)
  exact ⟨b, b1, b2.trans ⟨fun ⟨r', _, h2⟩ => ⟨r', h2⟩, fun ⟨r', h2⟩ => ⟨r', by omega, h2⟩⟩⟩
theorem flt_c (hE : Ew E) (h : Rdy E P pl S M) {r : Nat} (hr : r < P 4) : ∃ v, cPolicy_faultOf (eD E) (Kr E r) S = some v ∧ ((v = 5 ∧ Hd E S r) ∨ (v = 6 ∧ Hb E (P 4) S r) ∨ (v = 0 ∧ ¬ Hd E S r ∧ ¬ Hb E (P 4) S r)) := by
  obtain ⟨b, b1, b2⟩ := dis_c hE h hr
  obtain ⟨q, q1, q2⟩ := brk_c hE h (Kr E r)
  have j20 : (b = false ∨ ¬ gR S (Kr E r) 0 = 9) → ∃ v, cPolicy_faultOf_J20 (eD E) (Kr E r) S = some v ∧ ((v = 5 ∧ Hd E S r) ∨ (v = 6 ∧ Hb E (P 4) S r) ∨ (v = 0 ∧ ¬ Hd E S r ∧ ¬ Hb E (P 4) S r)) := by
    intro hb
    have nd : ¬ Hd E S r := by
      rintro ⟨z1, z2⟩
      rcases hb with hb | hb
      · rw [hb] at b2
        exact absurd (b2.mpr z2) Bool.false_ne_true
      · exact hb z1
    unfold cPolicy_faultOf_J20
    simp only [bd]
    rw [if_pos (h.k5 hr)]
    by_cases g8 : gR S (Kr E r) 0 = 8
    · rw [if_pos g8, q1, Option.bind_some]
      cases q
      · rw [if_neg Bool.false_ne_true]
        exact ⟨0, rfl, Or.inr (Or.inr ⟨rfl, nd, fun z => absurd (q2.mpr z.2) Bool.false_ne_true⟩)⟩
      · rw [if_pos rfl]
        exact ⟨6, rfl, Or.inr (Or.inl ⟨rfl, g8, q2.mp rfl⟩)⟩
    · rw [if_neg g8]
      exact ⟨0, rfl, Or.inr (Or.inr ⟨rfl, nd, fun z => g8 z.1⟩)⟩
  unfold cPolicy_faultOf
  simp only [bd]
  rw [if_pos (h.k5 hr), b1, Option.bind_some]
  by_cases g9 : gR S (Kr E r) 0 = 9
  · rw [if_pos g9]
    cases b
    · rw [if_neg Bool.false_ne_true]
      exact j20 (Or.inl rfl)
    · rw [if_pos rfl]
      exact ⟨5, rfl, Or.inl ⟨rfl, g9, b2.mp rfl⟩⟩
  · rw [if_neg g9]
    exact j20 (Or.inr g9)
theorem shT_cm {a x : Nat} : shT S a x ↔ shT S x a := by
  have : ∀ t, (tgs S a t &&& tgs S x t) = (tgs S x t &&& tgs S a t) := fun t => b_ext (fun i _ => by rw [b_and, b_and, Bool.and_comm])
  unfold shT
  exact exists_congr (fun t => and_congr_right (fun _ => by rw [this]))
theorem kd_m {k r nt nb : Nat} (hR : RuR S M k r nt nb) {w : Nat} (hw : w < 5) : gI M 11 r = nI w ↔ gR S k 0 = w + 5 := by
  obtain ⟨v, v1, v2, v3⟩ := hR.kind
  rw [v2, v3, nI_eq (by omega) (by omega)]
  omega
theorem cl_and {v v' : Nat} (hv : v < 16) : ¬ (nI v &&& nI v' = 0) ↔ ∃ c, c < 4 ∧ bt (nI v) c = true ∧ bt (nI v') c = true := by
  have hi : ∀ i, i < 32 → 4 ≤ i → bt (nI v) i = false := by
    have : ∀ v, v < 16 → ∀ i, i < 32 → 4 ≤ i → bt (nI v) i = false := by decide +kernel
    exact this v hv
  constructor
  · intro h
    apply Classical.byContradiction
    intro hn
    apply h
    refine b_ext (fun i hi' => ?_)
    rw [b_and, b_0]
    by_cases g : i < 4
    · cases h1 : bt (nI v) i
      · rfl
      · cases h2 : bt (nI v') i
        · rfl
        · exact absurd ⟨i, g, h1, h2⟩ hn
    · rw [hi i hi' (by omega), Bool.false_and]
  · rintro ⟨c, hc, h1, h2⟩ hz
    have : bt (nI v &&& nI v') c = false := by rw [hz, b_0]
    rw [b_and, h1, h2] at this
    exact absurd this (by decide)
end KP2
