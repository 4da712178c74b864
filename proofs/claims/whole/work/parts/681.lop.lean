section LP2
variable {E : EnvR} {P : Nat → Nat} {S S' S0 : CS} {M M' M'' : MS} {i k r d b : Nat} {X Y : CS → MS → Prop} {Q2 : CS → MS → Prop}
theorem hbK {g : Nat} (hg : 0 < g) (K : MS → Option MS) (hK : ∀ M, ¬ gI M 0 7 = 0 → K M = some M) : ∀ M, ¬ gI M 0 7 = 0 → FM E M → ∃ M', (K M).bind (m_load_L41 g) = m_load_J62 M' ∧ MB E M M' := fun M hb _ => ⟨M, by rw [hK M hb, Option.bind_some, l41b hg hb], MB.rf⟩
theorem hbL {g : Nat} (hg : 0 < g) : ∀ M, ¬ gI M 0 7 = 0 → FM E M → ∃ M', m_load_L41 g M = m_load_J62 M' ∧ MB E M M' := fun M hb _ => ⟨M, l41b hg hb, MB.rf⟩
/-- if name { : the condition begins -/
theorem rd_if (hE : Ew E) {m : Nat} {pl : Nat → Nat} (ha : cTokens_advance S0 = some S) (h : AX E P (Xc E (-1) false m pl) S M i) {f n g : Nat} (hg : 0 < g) (hK : ∀ S' M' c, c < P 3 → AX E P (Xc E (nI c) false m pl) S' M' (i + 2) → LO E (cReader_read_L33 f (nI (n + 1)) S') ((m_readSide_L6 (nI c) true 600 M').bind fun q => (KS false (nI c) q).bind (m_load_L41 g))) : LO E ((cReader_readIf S0).bind fun q48 => (if q48.2 = true then (bd (nI n + 1) fun a67 => cReader_read_L33 f a67 q48.1) else ((cTokens_place q48.1).bind fun q59 => (bd (pI q48.1 2 3 q59) fun S62 => some (S62, false))))) ((m_readIf M).bind (m_load_L41 g)) := by
  have hb := hE.2.1
  have hd := hE.1
  have hXT : ∀ c be, Sta xT yTk (Xc E c be m pl) := fun c be => (Xc.n hd).tk
  unfold cReader_readIf
  rw [ha, Option.bind_some]
  simp only [bd]
  rw [h.ptr, if_pos (kd_d hd)]
  have fal : ∀ (T : CS) (N : MS), Bd E T N → LO E ((cTokens_place T).bind fun q59 => some (pI T 2 3 q59, false)) (m_load_L41 g N) := by
    intro T N hB
    exact LO.bad hB (l41b hg hB.nb)
  rcases h with ⟨h, hx⟩ | h
  · have hD := h.dr
    unfold m_readIf
    by_cases hs : (tkE E i).1 = 97
    · obtain ⟨q, q1, q2⟩ := nh_y h hs (w := 3) (k := eD E + 7) (by omega) (by omega)
      have q1' : m_find 7 (3 * nI (eB E)) (gI M 2 (txN (5 * nI (eB E) + 3))) (gL M 0 11) M = some q := by
        rw [show txN (5 * nI (eB E) + 3) = 5 * eB E + 3 from (b53 hb).2, (hD.sz 3 (by omega)).2, show (3 : Int32) * nI (eB E) = nI (3 * eB E) from nI_mul 3 _]
        exact q1
      have l3 : P 3 ≤ 3 := hD.lm.1 3 (by omega)
      rw [in_y h hs, Option.bind_some]
      dsimp only
      rw [if_pos rfl, own hE h.fm, Option.bind_some, Option.bind_some, if_pos (b53 hb).1, q1', Option.bind_some]
      rcases q2 with ⟨rfl, q2⟩ | ⟨c, hc, rfl, q2⟩
      · rw [q2, Option.bind_some]
        dsimp only
        rw [if_pos rfl, Option.bind_some]
        dsimp only
        obtain ⟨z1, z2⟩ := rf_lv h (k := 2) (by decide)
        rw [if_neg Bool.false_ne_true, if_neg (show ¬ (0 : Int32) ≤ -1 by decide), z1, Option.bind_some, rif_b z2.nb, Option.bind_some]
        exact fal _ _ z2
      · rw [q2, Option.bind_some]
        dsimp only
        rw [if_neg (ne_m1 (by omega)), if_pos (nI_pos' (by omega)), if48]
        obtain ⟨M1, z1, z2, z3⟩ := adX (hXT _ _) h hx (by rw [hs]; decide)
        rw [z1, Option.bind_some]
        unfold m_readSide
        obtain ⟨S2, M2, fl, k1, k2, k3⟩ := exX (hXT _ _) z3 (v := 123) (c := 123) rfl (by omega) (by omega) (by omega) (by omega)
        rw [k1, k2, Option.bind_some, Option.bind_some]
        dsimp only
        rcases k3 with ⟨rfl, k3⟩ | ⟨rfl, k3⟩
        · rw [if_pos rfl, Option.bind_some]
          dsimp only
          rw [if_pos rfl, nI_1]
          have hh : AX E P (Xc E (nI c) false m pl) (pB (pI S2 2 4 (nI c)) 2 5 false) M2 (i + 2) := by
            rcases k3 with ⟨k3, kx⟩ | k3
            · refine Or.inl ⟨⟨k3.tc.w (((eqC.rf _ _).I _ (by omega)).B _ (by omega)), (k3.fc.I _ (fun z => z (Or.inl ⟨rfl, by omega, by omega⟩))).B _ (fun z => z (Or.inl ⟨rfl, by omega, by omega⟩)), k3.fm, k3.dr.fr (((eqC.rf _ _).I _ (nxD hd (by omega) (by omega))).B _ (nxD hd (by omega) (by omega))) (eqC.rf _ _), k3.tm, k3.ne, k3.ok, k3.cu⟩, ?_, fun _ => gB_same _ _ _ _, fun j hj => ?_, ?_, ?_⟩
              · rw [gI_pB, gI_same]
              · rw [gI_pB, gI_other _ _ (by omega)]
                exact kx.2.2.1 j hj
              · rw [gI_pB, gI_other _ _ (by omega)]
                exact kx.2.2.2.1
              · rw [gI_pB, gI_other _ _ (by omega)]
                exact kx.2.2.2.2
            · exact Or.inr ⟨k3.tc.w (((eqC.rf _ _).I _ (by omega)).B _ (by omega)), (k3.fc.I _ (fun z => z (Or.inl ⟨rfl, by omega, by omega⟩))).B _ (fun z => z (Or.inl ⟨rfl, by omega, by omega⟩)), k3.fm, k3.dc.fr (((eqC.rf _ _).I _ (nxD hd (by omega) (by omega))).B _ (nxD hd (by omega) (by omega))), k3.is, k3.b1, k3.pl⟩
          have := hK _ _ c hc hh
          rw [Option.bind_assoc]
          exact this
        · rw [if_neg Bool.false_ne_true, Option.bind_some]
          dsimp only
          rw [if_neg Bool.false_ne_true, rs6 (by omega) k3.nb, Option.bind_some, KS_b k3.nb, Option.bind_some]
          exact fal _ _ k3
    · rw [nh_n hD.dc h.tc hs (w := 3) (by omega) (by omega), Option.bind_some, in_n h hs, Option.bind_some]
      dsimp only
      rw [if_pos rfl, Option.bind_some]
      dsimp only
      rw [if_neg Bool.false_ne_true, if_neg Bool.false_ne_true, Option.bind_some]
      exact fal _ _ (rf_lv h (by decide)).2
  · rw [nh_n h.dc h.tc (by rw [h.is]; decide) (w := 3) (by omega) (by omega), Option.bind_some]
    dsimp only
    unfold m_readIf
    rw [if_pos rfl, Option.bind_some, in_b h.nb, Option.bind_some]
    dsimp only
    rw [if_neg Bool.false_ne_true, if_neg Bool.false_ne_true, Option.bind_some]
    exact fal _ _ (rf_li h)
end LP2
