/-! class -/
section SCL
variable {E : EnvR} {P : Nat → Nat} {S S' S0 : CS} {M M' M'' : MS} {i : Nat} {X Y : CS → MS → Prop} {Q Q2 : CS → MS → Prop}
theorem rc187 (h : ¬ gI M 0 7 = 0) : m_readClass_J187 M = some M := by
  unfold m_readClass_J187
  rw [mu_b h, Option.bind_some, mu_b h, Option.bind_some]
theorem rc54 {v : Int32} {f : Nat} (hf : 0 < f) (h : ¬ gI M 0 7 = 0) : m_readClass_L54 v f M = some M := by
  obtain ⟨f, rfl⟩ := Nat.exists_eq_add_of_lt hf
  rw [Nat.zero_add, m_readClass_L54, if_neg h, rc187 h]
theorem rc126 {k : MS → Option MS} {v : Int32} (hv : inbd v 8 = true) (h : ¬ gI M 0 7 = 0) : m_readClass_J126 k v M = some M := by
  unfold m_readClass_J126
  rw [if_pos hv, fail_1 h, Option.bind_some]
  unfold m_readClass_J142
  rw [if_neg h]
  split <;> rfl
theorem rc121 {k : MS → Option MS} {v : Int32} (hv : inbd v 8 = true) (h : gI M 0 7 = 0) : m_readClass_J121 k v M = some (mF M 3) := by
  unfold m_readClass_J121
  rw [fail_0 h, Option.bind_some]
  exact rc126 (M := mF M 3) hv (mF_b (by decide))
/-- a permission is declared on both sides -/
theorem dclP (hE : Ew E) (hX : Sta (xN (eD E)) (yN (eB E)) X) {c : Nat} (hc : c < P 10) (h : Lv E P S M i) (hx : X S M) (hs : (tkE E i).1 = 97) {k : MS → Option MS} (hk : BM E k) {F : CS × Bool → Option (CS × Bool)} (h0 : ∀ S', F (S', false) = some (S', false)) (h1 : ∀ S' M', AX E (up P (5 + c) (P (5 + c) + 1)) X S' M' (i + 1) → Ou E Q2 (F (S', true)) (k M')) : ∃ nm r, cTokens_name S = some nm ∧ cNames_numberOf (eD E + 13 + 2 * c) nm S = some r ∧ ∀ s, (s = true ↔ ¬ r = -1) → Ou E Q2 ((cReader_declare (eD E + 13 + 2 * c) s S).bind F) (m_readClass_J79 k (nI (4 * eB E + c)) M) := by
  obtain ⟨-, y1, y2⟩ := h.cu.2.2.2.1 hs
  have hD := h.dr
  have hb := hE.2.1
  have hd := hE.1
  have l2 : P 2 ≤ 4 := hD.lm.1 2 (by omega)
  have l10 := hD.lm.2.2.2.2.1
  have l8 := hD.lm.2.2.2.1 c (by omega)
  have hps := hD.ps c (by omega)
  have hln : ln (eD E + 13 + 2 * c + 1) = 8 := ln_p hd (by omega)
  have hin : inbd (nI (4 * eB E + c)) 8 = true := inb_nI (by omega) (by omega)
  have hin2 : txN (nI (4 * eB E + c)) = 4 * eB E + c := tx_nI (by omega)
  have hlm : lnM 6 = 64 := by decide
  obtain ⟨r, r1, r2, r3⟩ := num_eq (S := S) (M := M) (k := eD E + 13 + 2 * c) (a := 6) (o := 8 * (4 * eB E + c)) (n := P (5 + c)) (x := (tkE E i).2.2.2.1) (y := (tkE E i).2.2.2.2) hps.1 (by omega) (by omega) (by omega) (by omega) (fun j hj => (hD.pn c hc j hj).eq y2)
  refine ⟨_, r, nmE h.tc, r1, fun s hsr => ?_⟩
  obtain ⟨wd, w1, w2, w3⟩ := wo_m y2
  have hword : cTokens_word S = some wd := by
    have hn := nmE h.tc
    unfold cTokens_name at hn
    unfold cTokens_word
    by_cases g : inbd (gI S 3 4) 481 = true
    · rw [if_pos g] at hn ⊢
      rw [Option.some.inj hn, w1, Option.bind_some, if_pos w2]
    · rw [if_neg g] at hn
      exact absurd hn (by simp)
  have q := sg_r (n := 8) (r := r) (by rcases r3 with z | ⟨j, z1, z2⟩; exact Or.inl z; exact Or.inr ⟨j, by omega, z2⟩) (by omega)
  have bad3 : (s = true ∨ wd ≠ 0) → Ou E Q2 ((cReader_declare (eD E + 13 + 2 * c) s S).bind F) (some (mF M 3)) := by
    intro ht
    have e : cReader_declare (eD E + 13 + 2 * c) s S = some (pI S 2 2 3, false) := by
      unfold cReader_declare cReader_declare_J35 cReader_refuse
      rw [is97 h.tc, Option.bind_some, decide_eq_true hs, if_pos rfl]
      by_cases g : s = true
      · rw [if_pos g]
        rfl
      · rw [if_neg g, hword, Option.bind_some, if_pos w2, if_neg (ht.resolve_left g)]
        rfl
    rw [e, Option.bind_some, h0]
    exact Ou.f (rf_lv h (by decide)).2
  unfold m_readClass_J79
  rw [in_y h hs, Option.bind_some]
  dsimp only
  rw [if_pos rfl, y1]
  by_cases gw : wd = 0
  · have hw0 : m_isWord (tkE E i).2.2.2.2 = some false := by
      rcases w3 with ⟨-, -, g⟩ | ⟨g, -⟩
      · exact isw_0 g
      · omega
    rw [hw0, Option.bind_some, if_neg Bool.false_ne_true, if_pos hin, hin2, hps.2 hc, show (8 : Int32) * nI (4 * eB E + c) = nI (8 * (4 * eB E + c)) from nI_mul 8 _, r2, Option.bind_some]
    by_cases gr : r = -1
    · rw [if_pos (q.1 gr).2]
      have hs0 : s = false := by
        cases s
        · rfl
        · exact absurd gr (hsr.mp rfl)
      subst hs0
      have e : cReader_declare (eD E + 13 + 2 * c) false S = (cNames_add (eD E + 13 + 2 * c) (tkE E i).2.2.2.1 S).bind fun q49 => (if q49.2 = true then ((cTokens_advance q49.1).bind fun q65 => some (q65, true)) else ((cReader_refuse 4 q49.1).bind fun q57 => some (q57.1, q57.2))) := by
        unfold cReader_declare
        rw [is97 h.tc, Option.bind_some, decide_eq_true hs, if_pos rfl, if_neg Bool.false_ne_true, hword, Option.bind_some, if_pos w2, if_pos gw, nmE h.tc, Option.bind_some]
      rw [e]
      unfold cNames_add m_readClass_J126
      rw [hln, hps.1, if_pos hin, hin2, hps.2 hc]
      by_cases hlt : P (5 + c) < 8
      · rw [if_pos (nI_lt hlt (by omega)), if_pos (inb_nI hlt (by omega)), tx_nI (by omega), if_neg (show ¬ nI (P (5 + c)) = 8 from fun z => absurd ((nI_eq (b := 8) (by omega) (by omega)).mp z) (by omega))]
        unfold m_readClass_J142
        rw [if_pos h.ok, if_pos hin, hin2, hps.2 hc, show (8 : Int32) * nI (4 * eB E + c) = nI (8 * (4 * eB E + c)) from nI_mul 8 _, nI_add, if_pos (inb_nI (by omega) (by omega)), tx_nI (by omega), y1]
        simp only [bd]
        rw [if_pos hin, if_pos hin]
        simp only [gI_pL]
        rw [hps.2 hc, hps.1, nI_1, Option.bind_some]
        dsimp only
        rw [if_pos rfl]
        have hD' := hD.pn1 hc hlt y2
        have hc1 : eqC (xO (eD E)) S (pI (pL S (eD E + 13 + 2 * c + 1) (P (5 + c)) (tkE E i).2.2.2.1) (eD E + 13 + 2 * c) 1 (nI (P (5 + c) + 1))) := ((eqC.rf _ _).L _ (nxO (by omega) (by omega))).I _ (nxO (by omega) (by omega))
        have hm1 : eqC (yO (eB E)) M (pI (pL M 6 (8 * (4 * eB E + c) + P (5 + c)) (tkE E i).2.2.2.2) 9 (4 * eB E + c) (nI (P (5 + c) + 1))) := ((eqC.rf _ _).L _ (nyO (y_6 (by omega) (by omega)))).I _ (nyO (y_9 (by omega) (by omega)))
        have hc2 : eqC (xN (eD E)) S (pI (pL S (eD E + 13 + 2 * c + 1) (P (5 + c)) (tkE E i).2.2.2.1) (eD E + 13 + 2 * c) 1 (nI (P (5 + c) + 1))) := ((eqC.rf _ _).L _ (nxN_d (by omega) (by omega))).I _ (nxN_d (by omega) (by omega))
        have hm2 : eqC (yN (eB E)) M (pI (pL M 6 (8 * (4 * eB E + c) + P (5 + c)) (tkE E i).2.2.2.2) 9 (4 * eB E + c) (nI (P (5 + c) + 1))) := ((eqC.rf _ _).L _ (nyN (y_6 (by omega) (by omega)))).I _ (nyN (y_9 (by omega) (by omega)))
        obtain ⟨M2, z1, z2, z3⟩ := adX hX.tk (h.up hc1 hm1 hD') (hX _ _ _ _ hx hc2 hm2) (by rw [hs]; decide)
        rw [z1, z2, Option.bind_some, Option.bind_some, Option.bind_some]
        exact h1 _ _ z3
      · have hPe : P (5 + c) = 8 := by omega
        rw [hPe, if_neg (nI_nlt (Nat.le_refl _) (by omega)), if_pos (show nI 8 = 8 from rfl), Option.bind_some]
        dsimp only
        rw [if_neg Bool.false_ne_true]
        unfold cReader_refuse m_readClass_J142
        obtain ⟨f1, f2⟩ := rf_lv h (k := 4) (by decide)
        rw [f1, Option.bind_some, if_neg (mF_b (by decide))]
        simp only [bd, Option.bind_some]
        rw [h0]
        exact Ou.f f2
    · rw [if_neg (q.2 gr).2, rc121 hin h.ok]
      exact bad3 (Or.inl (hsr.mpr gr))
  · have hw1 : m_isWord (tkE E i).2.2.2.2 = some true := by
      rcases w3 with ⟨g, -, -⟩ | ⟨g, -, g'⟩
      · exact absurd g gw
      · rw [g']; exact isw_1 wd w2 g
    rw [hw1, Option.bind_some, if_pos rfl, rc121 hin h.ok]
    exact bad3 (Or.inr gw)
theorem rc126E (hX : Sta xT yTk X) (h : AX E P X S M i) : Ou E (fun S' M' => AX E P X S' M' (i + 2)) (cReader_readClass_J126 S) (m_readClass_J187 M) := by
  unfold cReader_readClass_J126 m_readClass_J187
  refine (exX hX h (c := 125) rfl (by omega) (by omega) (by omega) (by omega)).sq (BM.mu 59).bs (fun _ => rfl) (fun S' M' h' => ?_)
  dsimp only
  rw [if_pos rfl]
  exact Ou.m1 (Ou.c2 (exX hX h' (c := 59) rfl (by omega) (by omega) (by omega) (by omega)))
theorem rc_loop (hE : Ew E) (hX : Sta (xN (eD E)) (yN (eB E)) X) {c : Nat} : ∀ q (P : Nat → Nat), c < P 10 → P 10 ≤ 4 → P (5 + c) + q = 9 → ∀ f g, q < f → q < g → ∀ (S : CS) (M : MS) j, AX E P X S M j → (P (5 + c) = 0 ∨ (tkE E j).1 = 97) → Ou E (fun S' M' => ∃ P' i', j < i' ∧ (∀ m, m < 5 ∨ 9 ≤ m → P' m = P m) ∧ AX E P' X S' M' i') (cReader_readClass_L69 (eD E + 13 + 2 * c) f (nI (P (5 + c))) S) (m_readClass_L54 (nI (4 * eB E + c)) g M) := by
  have hb := hE.2.1
  have hd := hE.1
  intro q
  induction q with
  | zero =>
    intro P hc h4 hq f g hf hg S M j h hh
    have := h.dc.pp c (by omega)
    omega
  | succ q ih =>
    intro P hc h4 hq f g hf hg S M j h hh
    obtain ⟨f, rfl⟩ := Nat.exists_eq_add_of_lt hf
    obtain ⟨g, rfl⟩ := Nat.exists_eq_add_of_lt hg
    have hpp := h.dc.pp c (by omega)
    have hln : ln (eD E + 13 + 2 * c + 1) = 8 := ln_p hd (by omega)
    have bad1 : (tkE E j).1 ≠ 97 → ∀ k' : Int32 → CS → Option (CS × Bool), ∃ x, cTokens_name S = some x ∧ ∃ r, cNames_numberOf (eD E + 13 + 2 * c) x S = some r ∧ ∀ s, cReader_readClass_J97 k' (eD E + 13 + 2 * c) (nI (P (5 + c))) s (eD E + 13 + 2 * c) S = some (pI S 2 2 1, false) := by
      intro hs k'
      obtain ⟨r, r1, -⟩ := num_c (S := S) (k := eD E + 13 + 2 * c) (x := (tkE E j).2.2.2.1) hpp.2 (by omega) (by omega)
      refine ⟨_, nmE h.tc, r, r1, fun s => ?_⟩
      unfold cReader_readClass_J97 cReader_declare cReader_refuse
      rw [is97 h.tc, Option.bind_some, decide_eq_false hs, if_neg Bool.false_ne_true]
      rfl
    rw [cReader_readClass_L69, m_readClass_L54, if_neg (show ¬ (8 : Int32) < nI (P (5 + c)) from nI_nlt (a := 8) (by omega) (by omega))]
    rcases h with ⟨h, hx⟩ | h
    · have hin : inbd (nI (4 * eB E + c)) 8 = true := inb_nI (by omega) (by omega)
      have hin2 : txN (nI (4 * eB E + c)) = 4 * eB E + c := tx_nI (by omega)
      have hcnt := (h.dr.ps c (by omega)).2 hc
      have hmod : (if inbd (nI (4 * eB E + c)) 8 = true then (if gI M 9 (txN (nI (4 * eB E + c))) = 0 then m_readClass_J79 (m_readClass_L54 (nI (4 * eB E + c)) (q + 1 + g)) (nI (4 * eB E + c)) M else ((m_is 125 M).bind fun q73 => (if q73 = true then m_readClass_J187 M else m_readClass_J79 (m_readClass_L54 (nI (4 * eB E + c)) (q + 1 + g)) (nI (4 * eB E + c)) M))) else none) = m_readClass_J79 (m_readClass_L54 (nI (4 * eB E + c)) (q + 1 + g)) (nI (4 * eB E + c)) M := by
        rw [if_pos hin, hin2, hcnt]
        by_cases e : P (5 + c) = 0
        · rw [e, if_pos (show nI 0 = 0 from rfl)]
        · have hs := hh.resolve_left e
          rw [if_neg (nI_ne0 (by omega) (by omega)), show m_is 125 M = some (decide ((tkE E j).1 = 125)) from is_m h (c := 125) (by omega) (by omega) (by omega), Option.bind_some, hs]
          rfl
      rw [if_pos h.ok, hmod]
      by_cases hs : (tkE E j).1 = 97
      · have hbm : BM E (m_readClass_L54 (nI (4 * eB E + c)) (q + 1 + g)) := BM.id (fun M hb => rc54 (by omega) hb)
        obtain ⟨nm, r, n1, n2, n3⟩ := dclP (Q2 := fun S' M' => ∃ P' i', j < i' ∧ (∀ m, m < 5 ∨ 9 ≤ m → P' m = P m) ∧ AX E P' X S' M' i') hE hX hc h hx hs hbm (F := fun q97 => (if q97.2 = true then ((cTokens_is 97 q97.1).bind fun q111 => (if q111 = true then (bd (nI (P (5 + c)) + 1) fun a120 => cReader_readClass_L69 (eD E + 13 + 2 * c) (q + 1 + f) a120 q97.1) else cReader_readClass_J126 q97.1)) else some (q97.1, false))) (fun _ => rfl) (fun S' M' h' => by
          dsimp only
          rw [if_pos rfl, is97 h'.tc, Option.bind_some]
          have hu : up P (5 + c) (P (5 + c) + 1) (5 + c) = P (5 + c) + 1 := up_eq _ _ _
          have hun : ∀ m, m < 5 ∨ 9 ≤ m → up P (5 + c) (P (5 + c) + 1) m = P m := fun m hm => up_ne (by omega)
          by_cases hs' : (tkE E (j + 1)).1 = 97
          · rw [decide_eq_true hs', if_pos rfl]
            simp only [bd]
            rw [nI_1, ← hu]
            refine (ih (up P (5 + c) (P (5 + c) + 1)) (by rw [hun 10 (by omega)]; exact hc) (by rw [hun 10 (by omega)]; exact h4) (by rw [hu]; omega) (q + 1 + f) (q + 1 + g) (by omega) (by omega) S' M' (j + 1) h' (Or.inr hs')).im ?_
            rintro S2 M2 ⟨P', i', p1, p2, p3⟩
            exact ⟨P', i', by omega, fun m hm => (p2 m hm).trans (hun m hm), p3⟩
          · rw [decide_eq_false hs', if_neg Bool.false_ne_true]
            have fin := (rc126E hX.tk h').im (Q2 := fun S' M' => ∃ P' i', j < i' ∧ (∀ m, m < 5 ∨ 9 ≤ m → P' m = P m) ∧ AX E P' X S' M' i') (fun S2 M2 h2 => ⟨_, _, by omega, hun, h2⟩)
            have hg0 : 0 < q + 1 + g := by omega
            obtain ⟨g', hg'⟩ := Nat.exists_eq_add_of_lt hg0
            rw [hg', Nat.zero_add, m_readClass_L54]
            rcases h' with ⟨h', hx'⟩ | h'
            · have hcnt' := (h'.dr.ps c (by omega)).2 (by rw [hun 10 (by omega)]; exact hc)
              rw [hu] at hcnt'
              rw [if_pos h'.ok, if_pos hin, hin2, hcnt', if_neg (nI_ne0 (by omega) (by omega)), show m_is 125 M' = some (decide ((tkE E (j + 1)).1 = 125)) from is_m h' (c := 125) (by omega) (by omega) (by omega), Option.bind_some]
              by_cases g125 : (tkE E (j + 1)).1 = 125
              · rw [decide_eq_true g125, if_pos rfl]
                exact fin
              · rw [decide_eq_false g125, if_neg Bool.false_ne_true]
                unfold m_readClass_J79
                rw [in_n h' hs', Option.bind_some]
                dsimp only
                rw [if_neg Bool.false_ne_true]
                unfold cReader_readClass_J126 cReader_expect cReader_refuse cTokens_skip
                rw [show cTokens_is 125 S' = some (decide ((tkE E (j + 1)).1 = 125)) from isc h'.tc (c := 125) (by omega), decide_eq_false g125]
                exact Ou.f (rf_lv h' (by decide)).2
            · rw [if_neg h'.nb]
              exact fin)
        rw [n1, Option.bind_some, n2, Option.bind_some]
        by_cases er : r = -1
        · rw [if_pos er]
          exact n3 false (by simp [er])
        · rw [if_neg er]
          exact n3 true (by simp [er])
      · obtain ⟨x, n1, r, n2, n3⟩ := bad1 hs (cReader_readClass_L69 (eD E + 13 + 2 * c) (q + 1 + f))
        rw [n1, Option.bind_some, n2, Option.bind_some, n3, n3]
        unfold m_readClass_J79
        rw [in_n h hs, Option.bind_some]
        dsimp only
        rw [if_neg Bool.false_ne_true]
        have := Ou.f (Q := fun S' M' => ∃ P' i', j < i' ∧ (∀ m, m < 5 ∨ 9 ≤ m → P' m = P m) ∧ AX E P' X S' M' i') (rf_lv h (k := 1) (by decide)).2
        split <;> exact this
    · obtain ⟨x, n1, r, n2, n3⟩ := bad1 (by rw [h.is]; decide) (cReader_readClass_L69 (eD E + 13 + 2 * c) (q + 1 + f))
      rw [n1, Option.bind_some, n2, Option.bind_some, n3, n3, if_neg h.nb, rc187 h.nb]
      have := Ou.f (Q := fun S' M' => ∃ P' i', j < i' ∧ (∀ m, m < 5 ∨ 9 ≤ m → P' m = P m) ∧ AX E P' X S' M' i') (rf_li h)
      split <;> exact this
theorem rd_class (hE : Ew E) (hX : Sta (xN (eD E)) (yN (eB E)) X) (ha : cTokens_advance S0 = some S) (h : AX E P X S M i) (hp : Pc P) : Ou E (Qs E P X i) (cReader_readClass S0) (m_readClass M) := by
  unfold cReader_readClass m_readClass
  rw [ha, Option.bind_some]
  simp only [bd]
  have hb := hE.2.1
  have hd := hE.1
  rw [h.ptr, if_pos (kd_d hE.1), if_pos (kd_d hE.1), own hE h.fm, Option.bind_some, if_pos (b52 hb).1]
  generalize hA : 4 * nI (eB E) + gI M 2 (txN (5 * nI (eB E) + 2)) = A
  have hC : Lv E P S M i → A = nI (4 * eB E + P 2) := by
    intro hl
    rw [← hA, show txN (5 * nI (eB E) + 2) = 5 * eB E + 2 from (b52 hb).2, (hl.dr.sz 2 (by omega)).2, show (4 : Int32) * nI (eB E) = nI (4 * eB E) from nI_mul 4 _, nI_add]
  have hXc := hX.c (A = nI (4 * eB E + P 2))
  obtain ⟨nm, t, e1, e2, hO⟩ := decl hE (h.c hC) hXc (w := 2) (k := eD E + 5) (a := 5) (x1 := 2) (x3 := 4 * nI (eB E)) (x4 := 4) (by omega) (by omega) rfl rfl (nI_mul 4 _) rfl
  rw [e1, Option.bind_some, e2, Option.bind_some]
  have hbm : BM E (fun q36 => if gI q36 0 7 = 0 then (if inbd A 8 = true then m_readClass_L54 A 600 (pI q36 9 (txN A) 0) else none) else some q36) := BM.id (fun M hb => by
    show (if gI M 0 7 = 0 then _ else some M) = some M
    rw [if_neg hb])
  refine hO.sq ((BM.mu 123).bd hbm) (fun _ => rfl) (fun S' M' h' => ?_)
  dsimp only
  rw [if_pos rfl]
  refine (exX hXc.tk h' (c := 123) rfl (by omega) (by omega) (by omega) (by omega)).sq hbm (fun _ => rfl) (fun S2 M2 h2 => ?_)
  dsimp only
  have l2 : P 2 + 1 ≤ 4 := by
    have : up P 2 (P 2 + 1) 2 ≤ 4 := (h2.dc.nn 2 (by omega)).1
    rw [up_eq] at this
    exact this
  have hz : gI S2 (eD E + 5) 1 - 1 = nI (P 2) := by
    have := (h2.dc.nn 2 (by omega)).2.1
    rw [up_eq] at this
    rw [show gI S2 (eD E + 5) 1 = nI (P 2 + 1) from this, nI_pred]
  rw [if_pos rfl, h2.ptr, if_pos (kd_d hd), if_pos (kd_d hd), hz, if_pos (inb_nI (by omega) (by omega)), tx_nI (by omega), show eD E + 9 + (4 + 2 * P 2) = eD E + 13 + 2 * P 2 by omega]
  rcases h2 with ⟨h2, hx⟩ | h2
  · have u10 : up P 2 (P 2 + 1) 10 = P 2 := by rw [up_ne (by omega)]; exact hp.1
    have hD := h2.dr.pc1 (by rw [u10, up_eq]; omega)
    have u5 : up P 2 (P 2 + 1) (5 + P 2) = 0 := h2.dr.pz (P 2) (by rw [u10]; exact Nat.le_refl _) (by omega)
    rw [u10] at hD
    rw [if_pos h2.ok, hx.2, if_pos (inb_nI (by omega) (by omega)), tx_nI (by omega)]
    have hL := h2.up (eqC.rf _ _) (((eqC.rf (yO (eB E)) M2).I 0 (nyO (y_9 (by omega) (by omega)))) : eqC (yO (eB E)) M2 (pI M2 9 (4 * eB E + P 2) 0)) hD
    have hx' := hX _ _ _ _ hx.1 (eqC.rf _ _) (((eqC.rf (yN (eB E)) M2).I 0 (nyN (y_9 (by omega) (by omega)))) : eqC (yN (eB E)) M2 (pI M2 9 (4 * eB E + P 2) 0))
    have v5 : up (up P 2 (P 2 + 1)) 10 (P 2 + 1) (5 + P 2) = 0 := by rw [up_ne (by omega)]; exact u5
    have hlp := rc_loop hE hX (c := P 2) 9 (up (up P 2 (P 2 + 1)) 10 (P 2 + 1)) (by rw [up_eq]; omega) (by rw [up_eq]; omega) (by rw [v5]) 600 600 (by omega) (by omega) _ _ _ (Or.inl ⟨hL, hx'⟩) (Or.inl v5)
    rw [v5] at hlp
    refine Ou.im hlp ?_
    rintro S3 M3 ⟨P', i', p1, p2, p3⟩
    have p3' : AX E P' X S3 M3 i' := p3
    refine ⟨P', i', by omega, ⟨?_, ?_, ?_, ?_⟩, ?_, p3'⟩
    · rw [p2 10 (by omega), p2 2 (by omega), up_eq, up_ne (by omega), up_eq]
    · rw [p2 11 (by omega), p2 0 (by omega), up_ne (by omega), up_ne (by omega), up_ne (by omega), up_ne (by omega)]; exact hp.2.1
    · rw [p2 12 (by omega), p2 3 (by omega), up_ne (by omega), up_ne (by omega), up_ne (by omega), up_ne (by omega)]; exact hp.2.2.1
    · rw [p2 9 (by omega), p2 4 (by omega), up_ne (by omega), up_ne (by omega), up_ne (by omega), up_ne (by omega)]; exact hp.2.2.2
    · rw [p2 4 (by omega), up_ne (by omega), up_ne (by omega)]
  · rw [if_neg h2.nb]
    have hpp := h2.dc.pp (P 2) (by omega)
    have hln : ln (eD E + 13 + 2 * P 2 + 1) = 8 := ln_p hd (by omega)
    have hl : cReader_readClass_L69 (eD E + 13 + 2 * P 2) 600 0 S2 = some (pI S2 2 2 1, false) := by
      obtain ⟨r, r1, -⟩ := num_c (S := S2) (k := eD E + 13 + 2 * P 2) (x := 0) hpp.2 (by omega) (by omega)
      have hj : ∀ s k', cReader_readClass_J97 k' (eD E + 13 + 2 * P 2) 0 s (eD E + 13 + 2 * P 2) S2 = some (pI S2 2 2 1, false) := by
        intro s k'
        unfold cReader_readClass_J97 cReader_declare cReader_refuse
        rw [is97 h2.tc, Option.bind_some, decide_eq_false (by rw [h2.is]; decide), if_neg Bool.false_ne_true]
        rfl
      rw [show (600 : Nat) = 599 + 1 from rfl, cReader_readClass_L69, if_neg (by decide), h2.n0, Option.bind_some, r1, Option.bind_some, hj, hj]
      split <;> rfl
    rw [hl]
    exact Ou.f (rf_li h2)
end SCL
