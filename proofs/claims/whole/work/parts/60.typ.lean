/-! type -/
section STY
variable {E : EnvR} {P : Nat → Nat} {S S' S0 : CS} {M M' M'' : MS} {i : Nat} {X Y : CS → MS → Prop} {Q Q2 : CS → MS → Prop}
theorem rt48 {v1 v2 : Int32} {f : Nat} (hf : 0 < f) (h : ¬ gI M 0 7 = 0) : m_readType_L48 v1 v2 f M = some M := by
  obtain ⟨f, rfl⟩ := Nat.exists_eq_add_of_lt hf
  rw [Nat.zero_add, m_readType_L48, pa_b h, Option.bind_some, if_neg Bool.false_ne_true, mu_b h, Option.bind_some]
theorem rt99 {k : MS → Option MS} {v1 v2 v3 : Int32} (h : ¬ gI M 0 7 = 0) : m_readType_J99 k v1 v2 v3 M = some M := by
  unfold m_readType_J99
  rw [if_neg h]
theorem TC.lt (h : TC E S i) : i ≤ 480 := by
  have h1 := h.2.2.1
  have h2 := h.2.2.2.1
  omega
theorem rt_loop (hE : Ew E) (hX : Sta (xN (eD E)) (yN (eB E)) X) {t : Nat} (ht : t < P 11) {A : Int32} (hA : A = nI (12 * eB E + t)) : ∀ q j, 481 ≤ j + q → ∀ n f g, n + 1 ≤ j → q < f → q < g → ∀ (S : CS) (M : MS), AX E P X S M j → Ou E (fun S' M' => ∃ i', j < i' ∧ AX E P X S' M' i') (cReader_readType_L54 ((1 : Int32) <<< (nI t &&& 31)) f (nI n) S) (m_readType_L48 (nI (eB E)) A g M) := by
  intro q
  induction q with
  | zero =>
    intro j hj n f g hn hf hg S M h
    have := h.tc.lt
    omega
  | succ q ih =>
    intro j hj n f g hn hf hg S M h
    have hjl := h.tc.lt
    have hb := hE.2.1
    have hd := hE.1
    obtain ⟨f, rfl⟩ := Nat.exists_eq_add_of_lt hf
    obtain ⟨g, rfl⟩ := Nat.exists_eq_add_of_lt hg
    rw [cReader_readType_L54, m_readType_L48, if_neg (show ¬ (480 : Int32) ≤ nI n from nI_ge (b := 480) (by omega) (by omega))]
    obtain ⟨S1, M1, fl, e1, e2, e3⟩ := skX hX.tk h (v := 44) (c := 44) rfl (by omega) (by omega) (by omega) (by omega)
    rw [e1, e2, Option.bind_some, Option.bind_some]
    rcases e3 with ⟨rfl, rfl, rfl, -⟩ | ⟨rfl, -, h1, -⟩
    · dsimp only
      rw [if_neg Bool.false_ne_true, if_neg Bool.false_ne_true]
      unfold cReader_readType_J111
      exact (Ou.e1 (exX hX.tk h (c := 59) rfl (by omega) (by omega) (by omega) (by omega))).im (fun _ _ z => ⟨_, by omega, z⟩)
    · dsimp only
      rw [if_pos rfl, if_pos rfl]
      simp only [bd]
      rw [h1.ptr, if_pos (kd_d hd)]
      rcases h1 with ⟨h1, hx⟩ | h1
      · have hD := h1.dr
        by_cases hs : (tkE E (j + 1)).1 = 97
        · obtain ⟨r, r1, r2⟩ := nh_y h1 hs (w := 1) (k := eD E + 3) (by omega) (by omega)
          have r1' : m_find 4 (4 * nI (eB E)) (gI M1 2 (txN (5 * nI (eB E) + 1))) (gL M1 0 11) M1 = some r := by
            rw [show txN (5 * nI (eB E) + 1) = 5 * eB E + 1 from (b51 hb).2, (hD.sz 1 (by omega)).2, show (4 : Int32) * nI (eB E) = nI (4 * eB E) from nI_mul 4 _]
            exact r1
          rw [in_y h1 hs, Option.bind_some]
          dsimp only
          rw [if_pos rfl, if_pos (b51 hb).1, r1', Option.bind_some]
          rcases r2 with ⟨rfl, r2⟩ | ⟨a, ha, rfl, r2⟩
          · rw [r2, Option.bind_some]
            dsimp only
            rw [if_pos rfl, if_neg (by decide)]
            obtain ⟨z1, z2⟩ := rf_lv h1 (k := 2) (by decide)
            rw [z1, Option.bind_some, rt99 (mF_b (by decide))]
            exact Ou.f z2
          · have l1 : P 1 ≤ 4 := hD.lm.1 1 (by omega)
            have l0 : P 0 ≤ 12 := hD.lm.1 0 (by omega)
            have l11 := hD.lm.2.2.2.2.2.1
            rw [r2, Option.bind_some]
            dsimp only
            have hr : gR (pI S1 3 4 (nI (j + 1 + 1))) 2 1 = eD E := hD.ptr
            rw [if_neg (ne_m1 (by omega)), hr, if_pos (kd_d hd), if_pos (inb_nI (by omega) (by omega)), if_pos (inb_nI (by omega) (by omega)), tx_nI (by omega), nI_1, if_pos (nI_pos' (by omega))]
            unfold m_readType_J99
            simp only [bd]
            rw [if_pos h1.ok, hA, if_pos (inb_nI (by omega) (by omega)), if_pos (inb_nI (by omega) (by omega)), tx_nI (by omega), gI_other _ _ (by omega), pI_cm _ _ _ (by omega)]
            have hc1 : ∀ v, eqC (xO (eD E)) S1 (pI S1 (eD E + 10) a v) := fun v => (eqC.rf (xO (eD E)) S1).I v (nxO (by omega) (by omega))
            have hm1 : ∀ v, eqC (yO (eB E)) M1 (pI M1 8 (12 * eB E + t) v) := fun v => (eqC.rf (yO (eB E)) M1).I v (nyO (y_8 (by omega) (by omega)))
            have hc2 : ∀ v, eqC (xN (eD E)) S1 (pI S1 (eD E + 10) a v) := fun v => (eqC.rf (xN (eD E)) S1).I v (nxN_d (by omega) (by omega))
            have hm2 : ∀ v, eqC (yN (eB E)) M1 (pI M1 8 (12 * eB E + t) v) := fun v => (eqC.rf (yN (eB E)) M1).I v (nyN (y_8 (by omega) (by omega)))
            have hL := h1.up (hc1 _) (hm1 _) (hD.mb1 (a := a) ht (by omega))
            have hx' := hX _ _ _ _ hx (hc2 (gI S1 (eD E + 10) a ||| ((1 : Int32) <<< (nI t &&& 31)))) (hm2 (gI M1 8 (12 * eB E + t) ||| ((1 : Int32) <<< (nI a &&& 31))))
            obtain ⟨M2, z1, z2, z3⟩ := adX hX.tk hL hx' (by rw [hs]; decide)
            rw [z1, Option.bind_some]
            subst hA
            exact (ih (j + 1 + 1) (by omega) (n + 1) (q + 1 + f) (q + 1 + g) (by omega) (by omega) (by omega) _ _ z3).im (fun _ _ ⟨i', p1, p2⟩ => ⟨i', by omega, p2⟩)
        · rw [nh_n h1.dr.dc h1.tc hs (w := 1) (by omega) (by omega), Option.bind_some, in_n h1 hs, Option.bind_some]
          dsimp only
          rw [if_pos rfl, if_neg Bool.false_ne_true]
          exact Ou.f (rf_lv h1 (by decide)).2
      · rw [nh_n h1.dc h1.tc (by rw [h1.is]; decide) (w := 1) (by omega) (by omega), Option.bind_some, in_b h1.nb, Option.bind_some]
        dsimp only
        rw [if_pos rfl, if_neg Bool.false_ne_true]
        exact Ou.f (rf_li h1)
theorem rd_type (hE : Ew E) (hX : Sta (xN (eD E)) (yN (eB E)) X) (ha : cTokens_advance S0 = some S) (h : AX E P X S M i) (hp : Pc P) : Ou E (Qs E P X i) (cReader_readType S0) (m_readType M) := by
  unfold cReader_readType m_readType
  rw [ha, Option.bind_some]
  simp only [bd]
  have hb := hE.2.1
  have hd := hE.1
  rw [h.ptr, if_pos (kd_d hE.1), if_pos (kd_d hE.1), own hE h.fm, Option.bind_some, if_pos (bk50 hb).1]
  generalize hA : 12 * nI (eB E) + gI M 2 (txN (5 * nI (eB E))) = A
  have hC : Lv E P S M i → A = nI (12 * eB E + P 0) := by
    intro hl
    rw [← hA, (bk50 hb).2, show gI M 2 (5 * eB E) = nI (P 0) from (hl.dr.sz 0 (by omega)).2, show (12 : Int32) * nI (eB E) = nI (12 * eB E) from nI_mul 12 _, nI_add]
  obtain ⟨nm, t, e1, e2, hO⟩ := decl hE (h.c hC) (hX.c _) (w := 0) (k := eD E + 1) (a := 3) (x1 := 0) (x3 := 12 * nI (eB E)) (x4 := 12) (by omega) (by omega) rfl rfl (nI_mul 12 _) rfl
  rw [e1, Option.bind_some, e2, Option.bind_some]
  refine hO.sq (BM.id (fun M hb => ?_)) (fun _ => rfl) (fun S' M' h' => ?_)
  · show (if gI M 0 7 = 0 then (if inbd A 24 = true then m_readType_L48 (nI (eB E)) A 600 (pI M 8 (txN A) 0) else none) else m_readType_L48 (nI (eB E)) A 600 M) = some M
    rw [if_neg hb, rt48 (by omega) hb]
  · dsimp only
    have hz : gI S' (eD E + 1) 1 - 1 = nI (P 0) := by
      have := (h'.dc.nn 0 (by omega)).2.1
      rw [up_eq] at this
      rw [show gI S' (eD E + 1) 1 = nI (P 0 + 1) from this, nI_pred]
    rw [if_pos rfl, h'.ptr, if_pos (kd_d hd), hz]
    rcases h' with ⟨h', hx⟩ | h'
    · have l0 : P 0 + 1 ≤ 12 := by
        have : up P 0 (P 0 + 1) 0 ≤ 12 := h'.dr.lm.1 0 (by omega)
        rw [up_eq] at this
        exact this
      have u11 : up P 0 (P 0 + 1) 11 = P 0 := by rw [up_ne (by omega)]; exact hp.2.1
      rw [if_pos h'.ok, hx.2, if_pos (inb_nI (by omega) (by omega)), tx_nI (by omega)]
      have hD := h'.dr.hs1 (by rw [u11, up_eq]; omega)
      rw [u11] at hD
      have hL := h'.up (eqC.rf _ _) (((eqC.rf (yO (eB E)) M').I 0 (nyO (y_8 (by omega) (by omega)))) : eqC (yO (eB E)) M' (pI M' 8 (12 * eB E + P 0) 0)) hD
      have hx' := hX _ _ _ _ hx.1 (eqC.rf _ _) (((eqC.rf (yN (eB E)) M').I 0 (nyN (y_8 (by omega) (by omega)))) : eqC (yN (eB E)) M' (pI M' 8 (12 * eB E + P 0) 0))
      refine (rt_loop hE hX (t := P 0) (by rw [up_eq]; omega) rfl 481 (i + 1) (by omega) 0 600 600 (by omega) (by omega) (by omega) _ _ (Or.inl ⟨hL, hx'⟩)).im ?_
      rintro S2 M2 ⟨i', p1, p2⟩
      refine ⟨_, i', by omega, ⟨?_, ?_, ?_, ?_⟩, ?_, p2⟩
      · rw [up_ne (by omega), up_ne (by omega), up_ne (by omega), up_ne (by omega)]; exact hp.1
      · rw [up_eq, up_ne (by omega), up_eq]
      · rw [up_ne (by omega), up_ne (by omega), up_ne (by omega), up_ne (by omega)]; exact hp.2.2.1
      · rw [up_ne (by omega), up_ne (by omega), up_ne (by omega), up_ne (by omega)]; exact hp.2.2.2
      · rw [up_ne (by omega), up_ne (by omega)]
    · rw [if_neg h'.nb, rt48 (by omega) h'.nb]
      have hl : cReader_readType_L54 ((1 : Int32) <<< (nI (P 0) &&& 31)) 600 0 S' = some (pI S' 2 2 1, false) := by
        rw [show (600 : Nat) = 599 + 1 from rfl, cReader_readType_L54, if_neg (by decide), h'.sk (v := 44) (c := 44) rfl (by omega) (by omega), Option.bind_some]
        unfold cReader_readType_J111
        dsimp only
        rw [if_neg Bool.false_ne_true, h'.ex (v := 59) (c := 59) rfl (by omega) (by omega), Option.bind_some]
      rw [hl]
      exact Ou.f (rf_li h')
end STY
