def xSt (d k j : Nat) : Prop := ¬ (d + 21 ≤ k ∧ k < d + 117 ∧ (j = 7 ∨ j = 8))
def ySt (b k j : Nat) : Prop := ¬ ((k = 14 ∨ k = 15) ∧ 24 * b ≤ j ∧ j < 24 * b + 24)
section STL
variable {S S' : CS} {M M' : MS} {d b nr : Nat} {P : Nat → Nat}
theorem stl_c (hd : d = 7 ∨ d = 124) (hr : nr ≤ 24) (hn : gI S d 8 = nI nr) : ∃ S', cPolicy_settleSets d S = some S' ∧ eqC (xSt d) S S' ∧ ∀ r, r < nr → cPolicy_typesOf d (d + 21 + 4 * r + 1) S = some (gI S' (d + 21 + 4 * r) 7) ∧ cPolicy_typesOf d (d + 21 + 4 * r + 2) S = some (gI S' (d + 21 + 4 * r) 8) := by
  have key : ∀ e c, c + e = nr → ∀ f, e < f → ∀ S : CS, gI S d 8 = nI nr → ∃ S', cPolicy_settleSets_L2 d f (nI c) S = some S' ∧ eqC (xSt d) S S' ∧ (∀ r, r < c → ∀ j, gI S' (d + 21 + 4 * r) j = gI S (d + 21 + 4 * r) j) ∧ ∀ r, c ≤ r → r < nr → cPolicy_typesOf d (d + 21 + 4 * r + 1) S = some (gI S' (d + 21 + 4 * r) 7) ∧ cPolicy_typesOf d (d + 21 + 4 * r + 2) S = some (gI S' (d + 21 + 4 * r) 8) := by
    intro e
    induction e with
    | zero =>
      intro c hc f hf S hn
      obtain ⟨f, rfl⟩ := Nat.exists_eq_add_of_lt hf
      exact ⟨S, by rw [Nat.zero_add, cPolicy_settleSets_L2, hn, if_pos (nI_le (by omega) (by omega))], eqC.rf _ _, fun _ _ _ => rfl, fun r h1 h2 => by omega⟩
    | succ e ih =>
      intro c hc f hf S hn
      obtain ⟨f, rfl⟩ := Nat.exists_eq_add_of_lt hf
      obtain ⟨y1, e1⟩ := ts_some d (d + 21 + 4 * c + 1) S
      obtain ⟨y2, e2⟩ := ts_some d (d + 21 + 4 * c + 2) S
      have cg1 : ∀ (T : CS) v q, q ≠ d + 21 + 4 * c → d + 21 < q → cPolicy_typesOf d q (pI T (d + 21 + 4 * c) 7 v) = cPolicy_typesOf d q T := fun T v q hq h0 => ts_cg (gI_other _ _ (by omega)) (fun a ha => gI_other _ _ (by omega)) (fun j => Or.inl (gI_other _ _ (by omega))) (fun j => rfl)
      have cg2 : ∀ (T : CS) v q, q ≠ d + 21 + 4 * c → d + 21 < q → cPolicy_typesOf d q (pI T (d + 21 + 4 * c) 8 v) = cPolicy_typesOf d q T := fun T v q hq h0 => ts_cg (gI_other _ _ (by omega)) (fun a ha => gI_other _ _ (by omega)) (fun j => Or.inl (gI_other _ _ (by omega))) (fun j => rfl)
      rw [cPolicy_settleSets_L2, hn, if_neg (nI_ge (by omega) (by omega)), if_pos (inb_nI (show c < 24 by omega) (by omega)), tx_nI (show c < 2 ^ 31 by omega), show d + 12 + (9 + 4 * c) = d + 21 + 4 * c by omega]
      simp only [bd]
      rw [if_pos (inb_nI (show c < 24 by omega) (by omega)), e1, Option.bind_some, if_pos (inb_nI (show c < 24 by omega) (by omega)), if_pos (inb_nI (show c < 24 by omega) (by omega)), cg1 _ _ _ (by omega) (by omega), e2, Option.bind_some, nI_1]
      obtain ⟨S', g1, g2, g3, g4⟩ := ih (c + 1) (by omega) (e + 1 + f) (by omega) (pI (pI S (d + 21 + 4 * c) 7 y1) (d + 21 + 4 * c) 8 y2) (by rw [gI_other _ _ (by omega), gI_other _ _ (by omega)]; exact hn)
      refine ⟨S', g1, (((eqC.rf _ _).I _ (fun z => z ⟨by omega, by omega, Or.inl rfl⟩)).I _ (fun z => z ⟨by omega, by omega, Or.inr rfl⟩)).tr g2, fun r hr' j => ?_, fun r h1 h2 => ?_⟩
      · rw [g3 r (by omega) j, gI_other _ _ (by omega), gI_other _ _ (by omega)]
      · by_cases er : r = c
        · subst er
          rw [g3 r (by omega), g3 r (by omega), gI_other _ _ (by omega), gI_same, gI_same]
          exact ⟨e1, e2⟩
        · have q := g4 r (by omega) h2
          rw [cg2 _ _ _ (by omega) (by omega), cg1 _ _ _ (by omega) (by omega), cg2 _ _ _ (by omega) (by omega), cg1 _ _ _ (by omega) (by omega)] at q
          exact q
  obtain ⟨S', g1, g2, -, g4⟩ := key nr 0 (by omega) 600 (by omega) S hn
  exact ⟨S', g1, g2, fun r hr => g4 r (by omega) hr⟩
theorem stl_m (hb : b ≤ 1) (hr : nr ≤ 24) {n : Nat} (hn : n ≤ 12) (h2 : gI M 2 (5 * b) = nI n) (hres : ∀ r, r < nr → (∃ y, m_resolve (nI b) (nI (2 * (24 * b + r))) M = some y) ∧ (gB M 19 (24 * b + r) = false → ∃ y, m_resolve (nI b) (nI (2 * (24 * b + r) + 1)) M = some y)) : ∃ M', m_lookOver_L26 (nI b) (nI (24 * b + nr)) 600 (nI (24 * b)) M = m_lookOver_L85 (nI b) (nI (24 * b + nr)) 600 (24 * nI b) M' ∧ eqC (ySt b) M M' ∧ ∀ r, r < nr → m_resolve (nI b) (nI (2 * (24 * b + r))) M = some (gI M' 14 (24 * b + r)) ∧ (gB M 19 (24 * b + r) = false → m_resolve (nI b) (nI (2 * (24 * b + r) + 1)) M = some (gI M' 15 (24 * b + r))) := by
  have key : ∀ e c, c + e = nr → ∀ f, e < f → ∀ N : MS, eqC (ySt b) M N → (∀ r, r < c → m_resolve (nI b) (nI (2 * (24 * b + r))) M = some (gI N 14 (24 * b + r)) ∧ (gB M 19 (24 * b + r) = false → m_resolve (nI b) (nI (2 * (24 * b + r) + 1)) M = some (gI N 15 (24 * b + r)))) → ∃ M', m_lookOver_L26 (nI b) (nI (24 * b + nr)) f (nI (24 * b + c)) N = m_lookOver_L85 (nI b) (nI (24 * b + nr)) 600 (24 * nI b) M' ∧ eqC (ySt b) M M' ∧ ∀ r, r < nr → m_resolve (nI b) (nI (2 * (24 * b + r))) M = some (gI M' 14 (24 * b + r)) ∧ (gB M 19 (24 * b + r) = false → m_resolve (nI b) (nI (2 * (24 * b + r) + 1)) M = some (gI M' 15 (24 * b + r))) := by
    intro e
    induction e with
    | zero =>
      intro c hc f hf N hN hd
      obtain ⟨f, rfl⟩ := Nat.exists_eq_add_of_lt hf
      refine ⟨N, ?_, hN, fun r hr => hd r (by omega)⟩
      rw [Nat.zero_add, m_lookOver_L26, if_pos (nI_le (by omega) (by omega))]
      rfl
    | succ e ih =>
      intro c hc f hf N hN hd
      obtain ⟨f, rfl⟩ := Nat.exists_eq_add_of_lt hf
      have hin : inbd (nI (24 * b + c)) 48 = true := inb_nI (by omega) (by omega)
      have htx : txN (nI (24 * b + c)) = 24 * b + c := tx_nI (by omega)
      have cg : ∀ (T : MS) s, s < 96 → eqC (ySt b) M T → m_resolve (nI b) (nI s) T = m_resolve (nI b) (nI s) M := fun T s hs hT => rs_cg hb hn hs h2 (hT 2 _ (fun z => by omega)).1 (fun t ht => (hT 8 _ (fun z => by omega)).1) (hT 21 s (fun z => by omega)).1 (hT 22 s (fun z => by omega)).1
      obtain ⟨⟨y1, e1⟩, hr2⟩ := hres c (by omega)
      have w1 : ∀ (T : MS) v, eqC (ySt b) M T → eqC (ySt b) M (pI T 14 (24 * b + c) v) := fun T v hT => hT.I _ (fun z => z ⟨Or.inl rfl, by omega, by omega⟩)
      have w2 : ∀ (T : MS) v, eqC (ySt b) M T → eqC (ySt b) M (pI T 15 (24 * b + c) v) := fun T v hT => hT.I _ (fun z => z ⟨Or.inr rfl, by omega, by omega⟩)
      have b19 : gB (pI N 14 (24 * b + c) y1) 19 (24 * b + c) = gB M 19 (24 * b + c) := (hN 19 _ (fun z => by omega)).2.2.2
      rw [m_lookOver_L26, if_neg (nI_ge (by omega) (by omega)), show (2 : Int32) * nI (24 * b + c) = nI (2 * (24 * b + c)) from nI_mul 2 _, cg N _ (by omega) hN, e1, Option.bind_some, if_pos hin, htx]
      simp only [bd]
      rw [if_pos hin, b19, nI_1, nI_1]
      by_cases hself : gB M 19 (24 * b + c) = true
      · rw [if_pos hself, if_pos hin]
        refine ih (c + 1) (by omega) (e + 1 + f) (by omega) (pI (pI N 14 (24 * b + c) y1) 15 (24 * b + c) 0) (w2 _ _ (w1 _ _ hN)) (fun r hr => ?_)
        by_cases er : r = c
        · subst er
          refine ⟨by rw [gI_other _ _ (by omega), gI_same]; exact e1, fun z => ?_⟩
          rw [hself] at z
          exact absurd z.symm Bool.false_ne_true
        · rw [gI_other _ _ (by omega), gI_other _ _ (by omega), gI_other _ _ (by omega), gI_other _ _ (by omega)]
          exact hd r (by omega)
      · have hsf : gB M 19 (24 * b + c) = false := by simpa using hself
        obtain ⟨y2, e2⟩ := hr2 hsf
        rw [if_neg hself, cg _ _ (by omega) (w1 _ _ hN), e2, Option.bind_some, if_pos hin]
        refine ih (c + 1) (by omega) (e + 1 + f) (by omega) (pI (pI N 14 (24 * b + c) y1) 15 (24 * b + c) y2) (w2 _ _ (w1 _ _ hN)) (fun r hr => ?_)
        by_cases er : r = c
        · subst er
          exact ⟨by rw [gI_other _ _ (by omega), gI_same]; exact e1, fun _ => by rw [gI_same]; exact e2⟩
        · rw [gI_other _ _ (by omega), gI_other _ _ (by omega), gI_other _ _ (by omega), gI_other _ _ (by omega)]
          exact hd r (by omega)
  exact key nr 0 (by omega) 600 (by omega) M (eqC.rf _ _) (fun r hr => absurd hr (Nat.not_lt_zero _))
end STL
/-- both have read the text to its end, and settled the sets -/
abbrev Rdy (E : EnvR) (P : Nat → Nat) (pl : Nat → Nat) (S : CS) (M : MS) : Prop := (FC E S) ∧ (FM E M) ∧ (gR S 2 1 = eD E) ∧ (gI M 0 7 = 0) ∧ (P 0 ≤ 12 ∧ P 2 ≤ 4 ∧ P 3 ≤ 3 ∧ P 4 ≤ 24) ∧ (gI S (eD E + 1) 1 = nI (P 0) ∧ gI M 2 (5 * eB E) = nI (P 0)) ∧ (∀ j, j < P 0 → NR (gL S (eD E + 2) j) (gL M 3 (12 * eB E + j))) ∧ (gI S (eD E + 5) 1 = nI (P 2) ∧ gI M 2 (5 * eB E + 2) = nI (P 2)) ∧ (∀ j, j < P 2 → NR (gL S (eD E + 6) j) (gL M 5 (4 * eB E + j))) ∧ (gI S (eD E + 7) 1 = nI (P 3) ∧ gI M 2 (5 * eB E + 3) = nI (P 3)) ∧ (∀ j, j < P 3 → gB S (eD E + 11) j = gB M 10 (3 * eB E + j)) ∧ (gI S (eD E) 8 = nI (P 4) ∧ gI M 2 (5 * eB E + 4) = nI (P 4)) ∧ (∀ j, j < P 4 → RuR S M (eD E + 21 + 4 * j) (24 * eB E + j) (P 0) (P 3)) ∧ (∀ j, j < P 4 → ∃ v, v < 16 ∧ gI S (eD E + 21 + 4 * j) 9 = nI v) ∧ (∀ j, j < P 4 → gI S (eD E + 21 + 4 * j) 1 = nI (pl j) ∧ pl j < 500) ∧ (∀ j j', j < j' → j' < P 4 → pl j < pl j') ∧ (gI S 2 2 = 0) ∧ (gI S 2 3 = -1)
theorem Rdy.fc {E : EnvR} {P : Nat → Nat} {pl : Nat → Nat} {S : CS} {M : MS} (zh : Rdy E P pl S M) : FC E S := zh.1
theorem Rdy.fm {E : EnvR} {P : Nat → Nat} {pl : Nat → Nat} {S : CS} {M : MS} (zh : Rdy E P pl S M) : FM E M := zh.2.1
theorem Rdy.ptr {E : EnvR} {P : Nat → Nat} {pl : Nat → Nat} {S : CS} {M : MS} (zh : Rdy E P pl S M) : gR S 2 1 = eD E := zh.2.2.1
theorem Rdy.ok {E : EnvR} {P : Nat → Nat} {pl : Nat → Nat} {S : CS} {M : MS} (zh : Rdy E P pl S M) : gI M 0 7 = 0 := zh.2.2.2.1
theorem Rdy.lm {E : EnvR} {P : Nat → Nat} {pl : Nat → Nat} {S : CS} {M : MS} (zh : Rdy E P pl S M) : P 0 ≤ 12 ∧ P 2 ≤ 4 ∧ P 3 ≤ 3 ∧ P 4 ≤ 24 := zh.2.2.2.2.1
theorem Rdy.t {E : EnvR} {P : Nat → Nat} {pl : Nat → Nat} {S : CS} {M : MS} (zh : Rdy E P pl S M) : gI S (eD E + 1) 1 = nI (P 0) ∧ gI M 2 (5 * eB E) = nI (P 0) := zh.2.2.2.2.2.1
theorem Rdy.tn {E : EnvR} {P : Nat → Nat} {pl : Nat → Nat} {S : CS} {M : MS} (zh : Rdy E P pl S M) : ∀ j, j < P 0 → NR (gL S (eD E + 2) j) (gL M 3 (12 * eB E + j)) := zh.2.2.2.2.2.2.1
theorem Rdy.c {E : EnvR} {P : Nat → Nat} {pl : Nat → Nat} {S : CS} {M : MS} (zh : Rdy E P pl S M) : gI S (eD E + 5) 1 = nI (P 2) ∧ gI M 2 (5 * eB E + 2) = nI (P 2) := zh.2.2.2.2.2.2.2.1
theorem Rdy.cn {E : EnvR} {P : Nat → Nat} {pl : Nat → Nat} {S : CS} {M : MS} (zh : Rdy E P pl S M) : ∀ j, j < P 2 → NR (gL S (eD E + 6) j) (gL M 5 (4 * eB E + j)) := zh.2.2.2.2.2.2.2.2.1
theorem Rdy.b {E : EnvR} {P : Nat → Nat} {pl : Nat → Nat} {S : CS} {M : MS} (zh : Rdy E P pl S M) : gI S (eD E + 7) 1 = nI (P 3) ∧ gI M 2 (5 * eB E + 3) = nI (P 3) := zh.2.2.2.2.2.2.2.2.2.1
theorem Rdy.bv {E : EnvR} {P : Nat → Nat} {pl : Nat → Nat} {S : CS} {M : MS} (zh : Rdy E P pl S M) : ∀ j, j < P 3 → gB S (eD E + 11) j = gB M 10 (3 * eB E + j) := zh.2.2.2.2.2.2.2.2.2.2.1
theorem Rdy.r {E : EnvR} {P : Nat → Nat} {pl : Nat → Nat} {S : CS} {M : MS} (zh : Rdy E P pl S M) : gI S (eD E) 8 = nI (P 4) ∧ gI M 2 (5 * eB E + 4) = nI (P 4) := zh.2.2.2.2.2.2.2.2.2.2.2.1
theorem Rdy.ru {E : EnvR} {P : Nat → Nat} {pl : Nat → Nat} {S : CS} {M : MS} (zh : Rdy E P pl S M) : ∀ j, j < P 4 → RuR S M (eD E + 21 + 4 * j) (24 * eB E + j) (P 0) (P 3) := zh.2.2.2.2.2.2.2.2.2.2.2.2.1
theorem Rdy.c16 {E : EnvR} {P : Nat → Nat} {pl : Nat → Nat} {S : CS} {M : MS} (zh : Rdy E P pl S M) : ∀ j, j < P 4 → ∃ v, v < 16 ∧ gI S (eD E + 21 + 4 * j) 9 = nI v := zh.2.2.2.2.2.2.2.2.2.2.2.2.2.1
theorem Rdy.pl {E : EnvR} {P : Nat → Nat} {pl : Nat → Nat} {S : CS} {M : MS} (zh : Rdy E P pl S M) : ∀ j, j < P 4 → gI S (eD E + 21 + 4 * j) 1 = nI (pl j) ∧ pl j < 500 := zh.2.2.2.2.2.2.2.2.2.2.2.2.2.2.1
theorem Rdy.po {E : EnvR} {P : Nat → Nat} {pl : Nat → Nat} {S : CS} {M : MS} (zh : Rdy E P pl S M) : ∀ j j', j < j' → j' < P 4 → pl j < pl j' := zh.2.2.2.2.2.2.2.2.2.2.2.2.2.2.2.1
theorem Rdy.f2 {E : EnvR} {P : Nat → Nat} {pl : Nat → Nat} {S : CS} {M : MS} (zh : Rdy E P pl S M) : gI S 2 2 = 0 := zh.2.2.2.2.2.2.2.2.2.2.2.2.2.2.2.2.1
theorem Rdy.f3 {E : EnvR} {P : Nat → Nat} {pl : Nat → Nat} {S : CS} {M : MS} (zh : Rdy E P pl S M) : gI S 2 3 = -1 := zh.2.2.2.2.2.2.2.2.2.2.2.2.2.2.2.2.2
theorem stl_all {E : EnvR} {S : CS} {M : MS} (hE : Ew E) (h : EndOk E S M) : ∃ P pl S' M', Rdy E P pl S' M' ∧ cReader_read_J73 S = (cReader_keepsPromises S').bind (fun q => some (q.1, q.2)) ∧ m_lookOver M = m_lookOver_L85 (nI (eB E)) (nI (24 * eB E + P 4)) 600 (24 * nI (eB E)) M' := by
  have hb := hE.2.1
  have hd := hE.1
  obtain ⟨P, i, pl, hl, hp, hpo, h1, h2, h3⟩ := h
  obtain ⟨-, ptr, lm, sz, cn, nm, ps, pn, pz, mb, bv, ru⟩ := id hl.dr
  have l0 : P 0 ≤ 12 := lm.1 0 (by omega)
  have l2 : P 2 ≤ 4 := lm.1 2 (by omega)
  have l3 : P 3 ≤ 3 := lm.1 3 (by omega)
  have l4 : P 4 ≤ 24 := Nat.le_trans lm.2.1 lm.2.2.1
  have h9 := hp.2.2.2
  rw [h9] at cn
  have hmb : ∀ a, a < 4 → ∀ t, t < 32 → bt (gI S (eD E + 10) a) t = (decide (t < P 0) && bt (gI M 8 (12 * eB E + t)) a) := by
    rw [← hp.2.1]
    exact mb
  have t1 : gI S (eD E + 1) 1 = nI (P 0) := (sz 0 (by omega)).1
  have t2 : gI M 2 (5 * eB E) = nI (P 0) := (sz 0 (by omega)).2
  have rs : ∀ r, r < P 4 → ∃ y, cPolicy_typesOf (eD E) (eD E + 21 + 4 * r + 1) S = some y ∧ m_resolve (nI (eB E)) (nI (2 * (24 * eB E + r))) M = some y := fun r hr => res_eq hb l0 t1 t2 hmb (by omega) (ru r hr).src
  have rt : ∀ r, r < P 4 → gB M 19 (24 * eB E + r) = false → ∃ y, cPolicy_typesOf (eD E) (eD E + 21 + 4 * r + 2) S = some y ∧ m_resolve (nI (eB E)) (nI (2 * (24 * eB E + r) + 1)) M = some y := fun r hr hz => res_eq hb l0 t1 t2 hmb (by omega) ((ru r hr).tgt ((ru r hr).self.trans hz))
  obtain ⟨S', s1, s2, s3⟩ := stl_c hd l4 cn.1
  obtain ⟨M', m1, m2, m3⟩ := stl_m hb l4 l0 t2 (fun r hr => ⟨by obtain ⟨y, -, e⟩ := rs r hr; exact ⟨y, e⟩, fun hz => by obtain ⟨y, -, e⟩ := rt r hr hz; exact ⟨y, e⟩⟩)
  have sI : ∀ k j, ¬ (j = 7 ∨ j = 8) ∨ k < eD E + 21 → gI S' k j = gI S k j := fun k j g => (s2 k j (fun z => by omega)).1
  have sB : ∀ k j, ¬ (j = 7 ∨ j = 8) ∨ k < eD E + 21 → gB S' k j = gB S k j := fun k j g => (s2 k j (fun z => by omega)).2.2.2
  have mI : ∀ k j, k ≠ 14 → k ≠ 15 → gI M' k j = gI M k j := fun k j g1 g2 => (m2 k j (fun z => by omega)).1
  have mB : ∀ k j, k ≠ 14 → k ≠ 15 → gB M' k j = gB M k j := fun k j g1 g2 => (m2 k j (fun z => by omega)).2.2.2
  refine ⟨P, pl, S', M', ⟨hl.fc.tr (s2.mono (fun k j g z => g (Or.inr (Or.inr (Or.inr ⟨by omega, by omega⟩))))), hl.fm.tr (m2.mono (fun k j g z => g (Or.inr (y_11 (by omega) (by omega) z.2.1 z.2.2)))), (s2 2 1 (fun z => by omega)).2.2.1.trans ptr, by rw [mI _ _ (by omega) (by omega)]; exact hl.ok, ⟨l0, l2, l3, l4⟩, ⟨by rw [sI _ _ (by omega)]; exact t1, by rw [mI _ _ (by omega) (by omega)]; exact t2⟩, fun j hj => ?_, ⟨by rw [sI _ _ (by omega)]; exact (sz 2 (by omega)).1, by rw [mI _ _ (by omega) (by omega)]; exact (sz 2 (by omega)).2⟩, fun j hj => ?_, ⟨by rw [sI _ _ (by omega)]; exact (sz 3 (by omega)).1, by rw [mI _ _ (by omega) (by omega)]; exact (sz 3 (by omega)).2⟩, fun j hj => ?_, ⟨(s2 _ 8 (fun z => by omega)).1.trans cn.1, by rw [mI _ _ (by omega) (by omega)]; exact cn.2⟩, fun j hj => ?_, fun j hj => ?_, fun j hj => ?_, hpo.1, by rw [sI _ _ (by omega)]; exact h2, by rw [sI _ _ (by omega)]; exact h3⟩, ?_, ?_⟩
  · rw [(s2 _ j (fun z => by omega)).2.1, (m2 3 _ (fun z => by omega)).2.1]
    exact nm 0 (by omega) j hj
  · rw [(s2 _ j (fun z => by omega)).2.1, (m2 5 _ (fun z => by omega)).2.1]
    exact nm 2 (by omega) j hj
  · rw [sB _ _ (by omega), mB _ _ (by omega) (by omega)]
    exact bv j (by rw [hp.2.2.1]; exact hj)
  · obtain ⟨k1, k2, k3, k4, k5, k6, k7, k8, k9⟩ := ru j hj
    have q := s3 j hj
    have qm := m3 j hj
    refine ⟨?_, ?_, ?_, ?_, ?_, ?_, ?_, ?_, ?_⟩
    · rw [(s2 _ 0 (fun z => by omega)).2.2.1, mI _ _ (by omega) (by omega)]; exact k1
    · rw [sI _ _ (by omega), mI _ _ (by omega) (by omega)]; exact k2
    · rw [sI _ _ (by omega), mI _ _ (by omega) (by omega), sB _ _ (by omega), mB _ _ (by omega) (by omega)]; exact k3
    · rw [sB _ _ (by omega), mB _ _ (by omega) (by omega)]; exact k4
    · obtain ⟨y, y1, y2⟩ := rs j hj
      rw [q.1] at y1
      rw [qm.1] at y2
      exact (Option.some.inj y1).trans (Option.some.inj y2).symm
    · intro hz
      rw [sB _ _ (by omega)] at hz
      have hz' : gB M 19 (24 * eB E + j) = false := k4.symm.trans hz
      obtain ⟨y, y1, y2⟩ := rt j hj hz'
      rw [q.2] at y1
      rw [qm.2 hz'] at y2
      exact (Option.some.inj y1).trans (Option.some.inj y2).symm
    · obtain ⟨v, -, v2, v3⟩ := k7
      rw [sI _ _ (by omega), mI _ _ (by omega) (by omega), v2, v3]
    · intro c hc
      rw [sI _ _ (by omega), mI _ _ (by omega) (by omega), sI _ _ (by omega)]
      exact k8 c hc
    · rw [mI 11 _ (by omega) (by omega), sI _ _ (by omega), mI 17 _ (by omega) (by omega)]
      exact k9
  · obtain ⟨v, v1, v2, -⟩ := (ru j hj).cls
    exact ⟨v, v1, by rw [sI _ _ (by omega)]; exact v2⟩
  · have hle : (tkE E i).2.1 ≤ 480 := Nat.le_trans (tks_stp (tx := E.1) (len := E.2.1) i).1 hE.2.2.2
    have := hpo.2 j hj
    exact ⟨by rw [sI _ _ (by omega)]; exact h1 j hj, by omega⟩
  · unfold cReader_read_J73
    simp only [bd]
    rw [ptr, if_pos (kd_d hd), s1, Option.bind_some]
  · unfold m_lookOver
    rw [own hE hl.fm, Option.bind_some, if_pos (b54 hb).1, show txN (5 * nI (eB E) + 4) = 5 * eB E + 4 from (b54 hb).2, cn.2]
    simp only [bd]
    rw [show (24 : Int32) * nI (eB E) = nI (24 * eB E) from nI_mul 24 _, nI_add, m1, show (24 : Int32) * nI (eB E) = nI (24 * eB E) from nI_mul 24 _]
