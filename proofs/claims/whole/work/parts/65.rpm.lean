/-! inside a rule: permissions -/
abbrev XP (X : CS → MS → Prop) (k r n : Nat) : CS → MS → Prop := fun S M => (X S M ∧ ClR S M k r n) ∧ PeR S M k r
section RPM
variable {E : EnvR} {P : Nat → Nat} {S S' S0 : CS} {M M' M'' : MS} {i k r : Nat} {X Y : CS → MS → Prop} {Q2 : CS → MS → Prop}
theorem fnd_s {a o n : Nat} {y : Int64} (hm : o + n ≤ lnM a) (hlm : lnM a ≤ 500) : ∃ r : Int32, m_find a (nI o) (nI n) y M = some r := by
  have key : ∀ q i, i + q = n → ∀ g, q < g → ∃ r : Int32, m_find_L3 a (nI o) (nI n) y M g (nI i) = some r := by
    intro q
    induction q with
    | zero =>
      intro i hi g hg
      obtain ⟨g, rfl⟩ := Nat.exists_eq_add_of_lt hg
      exact ⟨-1, by rw [Nat.zero_add, m_find_L3, if_pos (nI_le (by omega) (by omega))]⟩
    | succ q ih =>
      intro i hi g hg
      obtain ⟨g, rfl⟩ := Nat.exists_eq_add_of_lt hg
      have hi2 : inbd (nI o + nI i) (lnM a) = true := by rw [nI_add]; exact inb_nI (by omega) (by omega)
      rw [m_find_L3, if_neg (nI_ge (by omega) (by omega)), if_pos hi2]
      split
      · exact ⟨_, rfl⟩
      · simp only [bd]
        rw [nI_1]
        exact ih (i + 1) (by omega) _ (by omega)
  exact key n 0 (by omega) 600 (by omega)
theorem bk48 {b c : Nat} (hb : b ≤ 1) (hc : c < 4) : (8 : Int32) * (4 * nI b + nI c) = nI (8 * (4 * b + c)) := by
  rw [show (4 : Int32) * nI b = nI (4 * b) from nI_mul 4 _, nI_add, show (8 : Int32) * nI (4 * b + c) = nI (8 * (4 * b + c)) from nI_mul 8 _]
theorem b10 (hE : Ew E) {m v : Nat} (hm : m < 24) (hr : r = 24 * eB E + m) : ∀ e c, c + e = 4 → ∀ g, e < g → ∀ M : MS, ¬ gI M 0 7 = 0 → FM E M → gI M 16 r = nI v → (∀ c, c < 4 → bt (nI v) c = true → ∃ n, n ≤ 8 ∧ gI M 9 (4 * eB E + c) = nI n) → ∃ M', m_readPermission_L10 (nI r) g (nI c) M = some M' ∧ MB E M M' := by
  have hb := hE.2.1
  have hin : inbd (nI r) 48 = true := inb_nI (by omega) (by omega)
  have htx : txN (nI r) = r := tx_nI (by omega)
  have hlm : lnM 6 = 64 := by decide
  intro e
  induction e with
  | zero =>
    intro c hc g hg M h7 hf h16 h9
    obtain ⟨g, rfl⟩ := Nat.exists_eq_add_of_lt hg
    refine ⟨M, ?_, MB.rf⟩
    rw [Nat.zero_add, m_readPermission_L10, if_pos (show (4 : Int32) ≤ nI c from nI_le (a := 4) (by omega) (by omega)), nx_b h7, Option.bind_some]
  | succ e ih =>
    intro c hc g hg M h7 hf h16 h9
    obtain ⟨g, rfl⟩ := Nat.exists_eq_add_of_lt hg
    have r4 := r4x (r := r) (c := c) (by omega) (by omega)
    rw [m_readPermission_L10, if_neg (show ¬ (4 : Int32) ≤ nI c from nI_ge (b := 4) (by omega) (by omega)), own hE hf, Option.bind_some]
    simp only [bd]
    rw [if_pos hin, htx, h16, nI_1]
    by_cases hbit : bt (nI v) c = false
    · rw [if_pos ((bit_s _ (by omega)).mpr hbit)]
      exact ih (c + 1) (by omega) _ (by omega) M h7 hf h16 h9
    · rw [if_neg (fun z => hbit ((bit_s _ (by omega)).mp z)), if_pos (bk4 hb (c := c) (by omega)).1, (bk4 hb (c := c) (by omega)).2]
      obtain ⟨n, n1, n2⟩ := h9 c (by omega) (by simpa using hbit)
      obtain ⟨q, q1⟩ := fnd_s (M := M) (a := 6) (o := 8 * (4 * eB E + c)) (n := n) (y := gL M 0 11) (by omega) (by omega)
      rw [n2, bk48 hb (by omega), q1, Option.bind_some, r4.2, if_pos r4.1, if_pos r4.1, fail_1 h7, Option.bind_some]
      have hD : yD (eB E) 24 20 (4 * r + c) := by rw [hr]; exact y20 hm (by omega)
      have wr : ∀ x, ∃ M', m_readPermission_L10 (nI r) (e + 1 + g) (nI (c + 1)) (pI M 20 (4 * r + c) x) = some M' ∧ MB E M M' := by
        intro x
        have m1 : MB E M (pI M 20 (4 * r + c) x) := MB.rf.I _ hD
        obtain ⟨M2, e2, g2⟩ := ih (c + 1) (by omega) (e + 1 + g) (by omega) (pI M 20 (4 * r + c) x) (by rw [m1.1]; exact h7) (hf.tr m1.2.2) (by rw [gI_other _ _ (by omega)]; exact h16) (fun c' hc' hb' => by rw [gI_other _ _ (by omega)]; exact h9 c' hc' hb')
        exact ⟨M2, e2, m1.tr g2⟩
      split
      · exact wr _
      · exact ih (c + 1) (by omega) _ (by omega) M h7 hf h16 h9
theorem pm_loop (hE : Ew E) (hm : P 4 < 24) (hk : k = eD E + 21 + 4 * P 4) (hr : r = 24 * eB E + P 4) (hX : Sta (xP k) (yP r) X) (h10 : P 10 = P 2) (hs : (tkE E i).1 = 97) : ∀ e c, c + e = 4 → ∀ f g, e < f → e < g → ∀ (S : CS) (M : MS), Lv E P S M i → XP X k r (P 2) S M → Ou E (fun S' M' => AX E P (XP X k r (P 2)) S' M' (i + 1)) (cReader_readPermissionName_L20 k f (nI c) S) (m_readPermission_L10 (nI r) g (nI c) M) := by
  have hb := hE.2.1
  have hd := hE.1
  have hin : inbd (nI r) 48 = true := inb_nI (by omega) (by omega)
  have htx : txN (nI r) = r := tx_nI (by omega)
  have hlm : lnM 6 = 64 := by decide
  have hXY : Sta xT yTk (XP X k r (P 2)) := Sta.an (Sta.an hX.p (ClR.st (by omega))) (PeR.st (by omega))
  intro e
  induction e with
  | zero =>
    intro c hc f g hf hg S M h hx
    obtain ⟨f, rfl⟩ := Nat.exists_eq_add_of_lt hf
    obtain ⟨g, rfl⟩ := Nat.exists_eq_add_of_lt hg
    obtain ⟨M2, z1, z2, z3⟩ := adX hXY h hx (by rw [hs]; decide)
    rw [Nat.zero_add, Nat.zero_add, cReader_readPermissionName_L20, m_readPermission_L10, if_pos (show (4 : Int32) ≤ nI c from nI_le (a := 4) (by omega) (by omega)), if_pos (show (4 : Int32) ≤ nI c from nI_le (a := 4) (by omega) (by omega)), z1, z2, Option.bind_some, Option.bind_some]
    exact Ou.t z3
  | succ e ih =>
    intro c hc f g hf hg S M h hx
    obtain ⟨f, rfl⟩ := Nat.exists_eq_add_of_lt hf
    obtain ⟨g, rfl⟩ := Nat.exists_eq_add_of_lt hg
    have hD := h.dr
    have r4 := r4x (r := r) (c := c) (by omega) (by omega)
    obtain ⟨⟨hx0, v, v1, v2, v3, v4⟩, hp⟩ := id hx
    have l2 : P 2 ≤ 4 := hD.lm.1 2 (by omega)
    rw [cReader_readPermissionName_L20, m_readPermission_L10, if_neg (show ¬ (4 : Int32) ≤ nI c from nI_ge (b := 4) (by omega) (by omega)), if_neg (show ¬ (4 : Int32) ≤ nI c from nI_ge (b := 4) (by omega) (by omega)), own hE h.fm, Option.bind_some, v2, hb_eq _ (by omega), Option.bind_some]
    simp only [bd]
    rw [if_pos hin, htx, v3, nI_1]
    by_cases hbit : bt (nI v) c = false
    · rw [if_pos ((bit_s _ (by omega)).mpr hbit), if_neg (by rw [hbit]; exact Bool.false_ne_true)]
      exact ih (c + 1) (by omega) (e + 1 + f) (e + 1 + g) (by omega) (by omega) S M h hx
    · have hbit' : bt (nI v) c = true := by simpa using hbit
      have hcn := v4 c (by omega) hbit'
      obtain ⟨-, y1, y2⟩ := h.cu.2.2.2.1 hs
      have hps := hD.ps c (by omega)
      have l8 := hD.lm.2.2.2.1 c (by omega)
      have hln : ln (eD E + 13 + 2 * c + 1) = 8 := ln_p hd (by omega)
      obtain ⟨q, q1, q2, q3⟩ := num_eq (S := S) (M := M) (k := eD E + 13 + 2 * c) (a := 6) (o := 8 * (4 * eB E + c)) (n := P (5 + c)) (x := (tkE E i).2.2.2.1) (y := (tkE E i).2.2.2.2) hps.1 (by omega) (by omega) (by omega) (by omega) (fun j hj => (hD.pn c (by omega) j hj).eq y2)
      have s8 := sg_r (n := 8) (r := q) (by rcases q3 with z | ⟨j, z1, z2⟩; exact Or.inl z; exact Or.inr ⟨j, by omega, z2⟩) (by omega)
      rw [if_neg (fun z => hbit ((bit_s _ (by omega)).mp z)), if_pos hbit', hD.ptr, if_pos (kd_d hd), if_pos (inb_nI (show c < 4 by omega) (by omega)), tx_nI (show c < 2 ^ 31 by omega), show eD E + 9 + (4 + 2 * c) = eD E + 13 + 2 * c by omega, nmE h.tc, Option.bind_some, q1, Option.bind_some, if_pos (bk4 hb (c := c) (by omega)).1, (bk4 hb (c := c) (by omega)).2, hps.2 (by omega), bk48 hb (by omega), y1, q2, Option.bind_some, r4.2, if_pos r4.1, if_pos r4.1]
      by_cases gq : q = -1
      · rw [if_pos gq, if_neg (s8.1 gq).1]
        obtain ⟨z1, z2⟩ := rf_lv h (k := 2) (by decide)
        unfold cReader_refuse
        rw [z1, Option.bind_some]
        have z3 := mF_b (M := M) (k := 2) (by decide)
        have hmf : ∀ a j, a ≠ 0 → gI (mF M 2) a j = gI M a j := by
          intro a j ha
          unfold mF
          rw [gI_other _ _ (by omega), gI_other _ _ (by omega)]
        obtain ⟨M', e1, e2⟩ := b10 hE hm hr (v := v) e (c + 1) (by omega) (e + 1 + g) (by omega) (mF M 2) z3 z2.fm (by rw [hmf _ _ (by omega)]; exact v3) (fun c' hc' hb' => ⟨P (5 + c'), hD.lm.2.2.2.1 c' hc', by rw [hmf _ _ (by omega)]; exact (hD.ps c' hc').2 (by have := v4 c' hc' hb'; omega)⟩)
        rw [e1]
        exact Ou.f (z2.mb e2)
      · rw [if_neg gq, if_pos (s8.2 gq).1, if_pos (inb_nI (show c < 4 by omega) (by omega)), if_pos (inb_nI (show c < 4 by omega) (by omega))]
        obtain ⟨j, hj, rfl⟩ := q3.resolve_left gq
        obtain ⟨pv, p1, p2, p3, p4⟩ := hp c (by omega)
        have hor : nI pv ||| ((1 : Int32) <<< (nI j &&& 31)) = nI (pv ||| 2 ^ j) := by rw [sh_1 j (by omega), nx_or]
        rw [p2, p3, hor]
        have hlt : pv ||| 2 ^ j < 256 := Nat.or_lt_two_pow (n := 8) p1 (Nat.pow_lt_pow_right (by decide) (by omega))
        have hL : Lv E P (pI S (k + 3) c (nI (pv ||| 2 ^ j))) (pI M 20 (4 * r + c) (nI (pv ||| 2 ^ j))) i := h.wr hm ((eqC.rf _ _).I _ (nxW (by omega) (by omega))) ((eqC.rf _ _).I _ (nyW (Or.inr (Or.inl ⟨rfl, by omega, by omega⟩))))
        refine ih (c + 1) (by omega) (e + 1 + f) (e + 1 + g) (by omega) (by omega) _ _ hL ⟨⟨hX _ _ _ _ hx0 ((eqC.rf _ _).I _ (fun z => z.2.2 rfl)) ((eqC.rf _ _).I _ (fun z => z.2.2.2 ⟨rfl, by omega, by omega⟩)), v, v1, by rw [gI_other _ _ (by omega)]; exact v2, by rw [gI_other _ _ (by omega)]; exact v3, v4⟩, fun c' hc' => ?_⟩
        by_cases ec : c' = c
        · subst ec
          refine ⟨_, hlt, gI_same _ _ _ _, gI_same _ _ _ _, fun z => ?_⟩
          rw [gI_other _ _ (by omega), v2] at z
          exact absurd z hbit
        · obtain ⟨w, w1, w2, w3, w4⟩ := hp c' hc'
          refine ⟨w, w1, by rw [gI_other _ _ (by omega)]; exact w2, by rw [gI_other _ _ (by omega)]; exact w3, fun z => w4 ?_⟩
          rw [gI_other _ _ (by omega)] at z
          exact z
theorem rd_pm (hE : Ew E) (hm : P 4 < 24) (hk : k = eD E + 21 + 4 * P 4) (hr : r = 24 * eB E + P 4) (hX : Sta (xP k) (yP r) X) (h10 : P 10 = P 2) (h : AX E P (XP X k r (P 2)) S M i) : Ou E (fun S' M' => AX E P (XP X k r (P 2)) S' M' (i + 1)) (cReader_readPermissionName k S) (m_readPermission (nI r) M) := by
  unfold cReader_readPermissionName
  rw [is97 h.tc, Option.bind_some]
  rcases h with ⟨h, hx⟩ | h
  · unfold m_readPermission
    by_cases hs : (tkE E i).1 = 97
    · rw [decide_eq_true hs, if_pos rfl, in_y h hs, Option.bind_some]
      dsimp only
      rw [if_pos rfl]
      exact pm_loop hE hm hk hr hX h10 hs 4 0 (by omega) 600 600 (by omega) (by omega) S M h hx
    · rw [decide_eq_false hs, if_neg Bool.false_ne_true, in_n h hs, Option.bind_some]
      unfold cReader_refuse
      exact Ou.f (rf_lv h (by decide)).2
  · rw [decide_eq_false (by rw [h.is]; decide), if_neg Bool.false_ne_true, pm_b h.nb]
    unfold cReader_refuse
    exact Ou.f (rf_li h)
end RPM
