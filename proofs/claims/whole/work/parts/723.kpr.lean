section KP4
variable {E : EnvR} {S S' : CS} {M M' : MS} {P pl : Nat → Nat}
theorem Hd_fr {r : Nat} (hc : eqC (fun k j => ¬ (k = 2 ∧ j = 2)) S S') : Hd E S' r ↔ Hd E S r := by
  have hk : ∀ r j, ¬ (Kr E r = 2 ∧ j = 2) := fun r j => by unfold Kr; omega
  have gr : ∀ r, gR S' (Kr E r) 0 = gR S (Kr E r) 0 := fun r => (hc _ _ (hk r 0)).2.2.1
  have gi : ∀ r j, gI S' (Kr E r) j = gI S (Kr E r) j := fun r j => (hc _ _ (hk r j)).1
  have gt : ∀ r t, tgs S' (Kr E r) t = tgs S (Kr E r) t := fun r t => tgs_fr (fun j => ⟨(hc _ _ (hk r j)).1, (hc _ _ (hk r j)).2.2.2⟩)
  unfold Hd shT
  simp only [gr, gi, gt]
theorem Hb_fr {r n : Nat} (hc : eqC (fun k j => ¬ (k = 2 ∧ j = 2)) S S') : Hb E n S' r ↔ Hb E n S r := by
  have hk : ∀ r j, ¬ (Kr E r = 2 ∧ j = 2) := fun r j => by unfold Kr; omega
  have gr : ∀ r, gR S' (Kr E r) 0 = gR S (Kr E r) 0 := fun r => (hc _ _ (hk r 0)).2.2.1
  have gp : ∀ r j, gI S' (Kr E r + 3) j = gI S (Kr E r + 3) j := fun r j => (hc _ _ (by unfold Kr; omega)).1
  have gt : ∀ r t, tgs S' (Kr E r) t = tgs S (Kr E r) t := fun r t => tgs_fr (fun j => ⟨(hc _ _ (hk r j)).1, (hc _ _ (hk r j)).2.2.2⟩)
  unfold Hb shT shP
  simp only [gr, gp, gt]
/-- fallen: the kind and the place agree -/
def Fl (E : EnvR) (S : CS) (M : MS) : Prop := FC E S ∧ FM E M ∧ gI S 2 2 = gI M 0 7 ∧ ¬ gI M 0 7 = 0 ∧ gI S 2 3 = gI M 0 8
theorem l85b {v1 v2 v3 : Int32} {g : Nat} (hg : 0 < g) (h : ¬ gI M 0 7 = 0) : m_lookOver_L85 v1 v2 g v3 M = some M := by
  obtain ⟨g, rfl⟩ := Nat.exists_eq_add_of_lt hg
  rw [Nat.zero_add, m_lookOver_L85, if_neg h]
  split <;> rfl
theorem kp (hE : Ew E) : ∀ e c, c + e = P 4 → ∀ f g, e < f → e + 1 < g → ∀ (S : CS) (M : MS), Rdy E P pl S M → (∀ r, r < c → ¬ Hd E S r ∧ ¬ Hb E (P 4) S r) → ∃ S2 M2 fl, cReader_keepsPromises_L2 f (nI c) S = some (S2, fl) ∧ m_lookOver_L85 (nI (eB E)) (nI (24 * eB E + P 4)) g (nI (24 * eB E + c)) M = some M2 ∧ ((fl = true ∧ Rdy E P pl S2 M2 ∧ ∀ r, r < P 4 → ¬ Hd E S2 r ∧ ¬ Hb E (P 4) S2 r) ∨ (fl = false ∧ Fl E S2 M2)) := by
  have hb := hE.2.1
  have hd := hE.1
  intro e
  induction e with
  | zero =>
    intro c hc f g hf hg S M h hn
    have l4 := h.lm.2.2.2
    obtain ⟨f, rfl⟩ := Nat.exists_eq_add_of_lt hf
    obtain ⟨g, rfl⟩ := Nat.exists_eq_add_of_lt hg
    refine ⟨S, M, true, ?_, ?_, Or.inl ⟨rfl, h, fun r hr => hn r (by omega)⟩⟩
    · rw [Nat.zero_add, cReader_keepsPromises_L2]
      simp only [bd]
      rw [h.ptr, if_pos (kd_d hd), h.r.1, if_pos (nI_le (by omega) (by omega))]
    · rw [m_lookOver_L85, if_pos (nI_le (by omega) (by omega))]
  | succ e ih =>
    intro c hc f g hf hg S M h hn
    have l4 := h.lm.2.2.2
    obtain ⟨f, rfl⟩ := Nat.exists_eq_add_of_lt hf
    obtain ⟨g, rfl⟩ := Nat.exists_eq_add_of_lt hg
    have hcr : c < P 4 := by omega
    have hin : inbd (nI (24 * eB E + c)) 48 = true := inb_nI (by omega) (by omega)
    have htx : txN (nI (24 * eB E + c)) = 24 * eB E + c := tx_nI (by omega)
    have e1 : eD E + 12 + (9 + 4 * c) = Kr E c := by unfold Kr; omega
    obtain ⟨p, p0, p1, p2⟩ := (h.ru c hcr).place
    have p1' : gI S (Kr E c) 1 = nI p := p1
    have hk7 : 7 ≤ Kr E c := by unfold Kr; omega
    obtain ⟨v, v1, v2⟩ := flt_c hE h hcr
    have hz : eqC yZ M (pI M 0 3 (nI p)) := (eqC.rf _ _).I _ (fun z => z ⟨rfl, Or.inl rfl⟩)
    obtain ⟨M2, a1, a2, a3⟩ := l113 hE h hcr (m_lookOver_L85 (nI (eB E)) (nI (24 * eB E + P 4)) (e + 1 + 1 + g)) (nI (eB E)) (P 4) 0 (by omega) 600 (by omega) (pI M 0 3 (nI p)) hz
    have a1' : m_lookOver_L113 (m_lookOver_L85 (nI (eB E)) (nI (24 * eB E + P 4)) (e + 1 + 1 + g)) (nI (eB E)) (nI (24 * eB E + P 4)) (nI (24 * eB E + c)) 600 (24 * nI (eB E)) (pI M 0 3 (nI p)) = m_lookOver_L85 (nI (eB E)) (nI (24 * eB E + P 4)) (e + 1 + 1 + g) (nI (24 * eB E + (c + 1))) M2 := by
      rw [show (24 : Int32) * nI (eB E) = nI (24 * eB E) from nI_mul 24 _]
      exact a1
    have h7 : gI (pI M 0 3 (nI p)) 0 7 = 0 := by rw [gI_other _ _ (by omega)]; exact h.ok
    have mdl : m_lookOver_L85 (nI (eB E)) (nI (24 * eB E + P 4)) (e + 1 + 1 + g + 1) (nI (24 * eB E + c)) M = m_lookOver_L85 (nI (eB E)) (nI (24 * eB E + P 4)) (e + 1 + 1 + g) (nI (24 * eB E + (c + 1))) M2 := by
      rw [m_lookOver_L85, if_neg (nI_ge (by omega) (by omega)), if_pos h.ok, if_pos hin, htx, p2]
      simp only [bd]
      exact a1'
    rw [mdl]
    have cls : ∀ k, v = k → cReader_keepsPromises_L2 (e + 1 + f + 1) (nI c) S = (if k = 0 then cReader_keepsPromises_L2 (e + 1 + f) (nI (c + 1)) (pI S 2 2 k) else some (pI (pI S 2 2 k) 2 3 (nI p), false)) := by
      intro k hk
      subst hk
      have q2 : gR (pI S 2 2 v) 2 1 = eD E := h.ptr
      rw [cReader_keepsPromises_L2]
      simp only [bd]
      rw [h.ptr, if_pos (kd_d hd), h.r.1, if_neg (nI_ge (by omega) (by omega)), if_pos (kd_d hd), if_pos (kd_d hd), if_pos (inb_nI (show c < 24 by omega) (by omega)), tx_nI (show c < 2 ^ 31 by omega), e1, v1, Option.bind_some, gI_same, nI_1, q2, if_pos (kd_d hd), if_pos (inb_nI (show c < 24 by omega) (by omega)), e1, gI_other _ _ (by omega), p1']
    have fallen : ∀ k : Int32, k ≠ 0 → v = k → M2 = mF (pI M 0 3 (nI p)) k → ∃ S2 M3 fl, cReader_keepsPromises_L2 (e + 1 + f + 1) (nI c) S = some (S2, fl) ∧ m_lookOver_L85 (nI (eB E)) (nI (24 * eB E + P 4)) (e + 1 + 1 + g) (nI (24 * eB E + (c + 1))) M2 = some M3 ∧ ((fl = true ∧ Rdy E P pl S2 M3 ∧ ∀ r, r < P 4 → ¬ Hd E S2 r ∧ ¬ Hb E (P 4) S2 r) ∨ (fl = false ∧ Fl E S2 M3)) := by
      intro k k0 hv hM
      have hbad : ¬ gI M2 0 7 = 0 := by rw [hM]; exact mF_b k0
      refine ⟨_, M2, false, by rw [cls k hv, if_neg k0], l85b (by omega) hbad, Or.inr ⟨rfl, ?_, ?_, ?_, hbad, ?_⟩⟩
      · exact (h.fc.I _ (fun z => z (Or.inl ⟨rfl, by omega, by omega⟩))).I _ (fun z => z (Or.inl ⟨rfl, by omega, by omega⟩))
      · exact h.fm.tr (a2.mono (fun k j g z => g (Or.inl ⟨z.1, by omega⟩)))
      · rw [hM]
        unfold mF
        rw [gI_other _ _ (by omega), gI_same, gI_same]
      · rw [hM]
        unfold mF
        rw [gI_same, gI_other _ _ (by omega), gI_same, gI_same]
    rcases a3 with ⟨z, -⟩ | ⟨-, a3⟩
    · exact absurd h7 z
    · rcases v2 with ⟨hv, hH⟩ | ⟨hv, hH⟩ | ⟨hv, nH, nB⟩
      · obtain ⟨g9, r', r1, r2, r3, r4, r5⟩ := hH
        rcases a3 with ⟨a3, -⟩ | ⟨r'', b1, b2, b3⟩
        · exact absurd ⟨r1, g9, r2, r3, r4, r5⟩ (a3 r' (by omega) (by omega)).1
        · rcases b3 with ⟨-, b3⟩ | ⟨b3, -⟩
          · exact fallen 5 (by decide) hv b3
          · have := b3.1
            omega
      · obtain ⟨g8, r', r1, r2, r3, r4⟩ := hH
        rcases a3 with ⟨a3, -⟩ | ⟨r'', b1, b2, b3⟩
        · exact absurd ⟨g8, r2, r3, r4⟩ (a3 r' (by omega) r1).2
        · rcases b3 with ⟨b3, -⟩ | ⟨-, b3⟩
          · have := b3.2.1
            omega
          · exact fallen 6 (by decide) hv b3
      · rcases a3 with ⟨-, rfl⟩ | ⟨r'', b1, b2, b3⟩
        · rw [cls 0 hv, if_pos rfl]
          have hcc : eqC (fun k j => ¬ (k = 2 ∧ j = 2)) S (pI S 2 2 0) := (eqC.rf _ _).I _ (fun z => z ⟨rfl, rfl⟩)
          refine ih (c + 1) (by omega) (e + 1 + f) (e + 1 + 1 + g) (by omega) (by omega) (pI S 2 2 0) (pI M 0 3 (nI p)) (h.fr (by omega) hcc (gI_same _ _ _ _) hz h7) (fun r hr => ?_)
          rw [Hd_fr hcc, Hb_fr hcc]
          by_cases er : r = c
          · subst er; exact ⟨nH, nB⟩
          · exact hn r (by omega)
        · rcases b3 with ⟨b3, -⟩ | ⟨b3, -⟩
          · exact absurd ⟨b3.2.1, r'', b3.1, b3.2.2⟩ nH
          · exact absurd ⟨b3.1, r'', b2, b3.2⟩ nB
/-- the class has read, the reference has loaded as far as the bank's exchange -/
theorem ld_all (hE : Ew E) {x : Option (CS × Bool)} {y : Option (MS × Int32)} (h : LO E x y) : ∃ S2 M2 fl, x = some (S2, fl) ∧ y = m_load_J73 M2 ∧ ((fl = true ∧ ∃ P pl, Rdy E P pl S2 M2 ∧ ∀ r, r < P 4 → ¬ Hd E S2 r) ∨ (fl = false ∧ Fl E S2 M2)) := by
  rcases h with ⟨S, M, hB, e1, e2⟩ | ⟨S, M, hO, e1, e2⟩
  · refine ⟨_, M, false, e1, ?_, Or.inr ⟨rfl, ?_⟩⟩
    · rw [e2]
      unfold m_load_J62
      rw [if_neg hB.nb]
    · obtain ⟨i, g1, g2, g3, g4, g5, g6⟩ := hB
      exact ⟨g2.I _ (fun z => z (Or.inl ⟨rfl, by omega, by omega⟩)), g3, by rw [gI_other _ _ (by omega)]; exact g4, g5, gI_same _ _ _ _⟩
  · have hok : gI M 0 7 = 0 := by
      obtain ⟨P, i, pl, hl, -⟩ := hO
      exact hl.ok
    obtain ⟨P, pl, S', M', hR, a1, a2⟩ := stl_all hE hO
    have l4 := hR.lm.2.2.2
    obtain ⟨S2, M2, fl, b1, b2, b3⟩ := kp hE (P 4) 0 (by omega) 600 600 (by omega) (by omega) S' M' hR (fun r hr => absurd hr (Nat.not_lt_zero _))
    have b1' : cReader_keepsPromises_L2 600 0 S' = some (S2, fl) := b1
    refine ⟨S2, M2, fl, ?_, ?_, ?_⟩
    · rw [e1, a1]
      unfold cReader_keepsPromises
      rw [b1', Option.bind_some]
    · rw [e2]
      unfold m_load_J62
      rw [if_pos hok, a2, show (24 : Int32) * nI (eB E) = nI (24 * eB E + 0) from nI_mul 24 _, b2, Option.bind_some]
    · rcases b3 with ⟨c1, c2, c3⟩ | c
      · exact Or.inl ⟨c1, P, pl, c2, fun r hr => (c3 r hr).1⟩
      · exact Or.inr c
end KP4
