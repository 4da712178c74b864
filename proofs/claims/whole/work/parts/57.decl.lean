/-! declaring a name -/
theorem mc_r {w : Nat} (hw : w < 4) : 3 ≤ mc w ∧ mc w ≤ 7 ∧ mc w ≠ 6 := by
  have : w = 0 ∨ w = 1 ∨ w = 2 ∨ w = 3 := by omega
  rcases this with rfl | rfl | rfl | rfl <;> decide
theorem mc_i {w v : Nat} (hw : w < 4) (hv : v < 4) (h : mc w = mc v) : w = v := by
  have a : w = 0 ∨ w = 1 ∨ w = 2 ∨ w = 3 := by omega
  have b : v = 0 ∨ v = 1 ∨ v = 2 ∨ v = 3 := by omega
  rcases a with rfl | rfl | rfl | rfl <;> rcases b with rfl | rfl | rfl | rfl <;> first | rfl | exact absurd h (by decide)
section DCL
variable {E : EnvR} {P : Nat → Nat} {S S' : CS} {M M' M'' : MS} {i : Nat} {X Y : CS → MS → Prop} {d b : Nat}
theorem Dr.nm1 (h : Dr d b P S M) {w : Nat} {x y : Int64} (hw : w < 4) (hlt : P w < lim w) (hxy : NR x y) : Dr d b (up P w (P w + 1)) (pI (pL S (d + 1 + 2 * w + 1) (P w) x) (d + 1 + 2 * w) 1 (nI (P w + 1))) (pI (pL M (mc w) (lim w * b + P w) y) 2 (5 * b + w) (nI (P w + 1))) := by
  obtain ⟨hd, ptr, lm, sz, cn, nm, ps, pn, pz, mb, bv, ru⟩ := h
  have u : ∀ n, 4 ≤ n → up P w (P w + 1) n = P n := fun n hn => up_ne (by omega)
  have mo : ∀ n, P n ≤ up P w (P w + 1) n := by
    intro n
    by_cases e : n = w
    · rw [e, up_eq]; omega
    · rw [up_ne e]; exact Nat.le_refl _
  have hm := mc_r hw
  have u4 := u 4 (by omega)
  have u9 := u 9 (by omega)
  have u10 := u 10 (by omega)
  have u11 := u 11 (by omega)
  have u12 := u 12 (by omega)
  refine ⟨hd, ptr, ⟨fun w' hw' => ?_, ?_, ?_, fun c hc => ?_, ?_, ?_, ?_⟩, fun w' hw' => ?_, ?_, fun w' hw' j hj => ?_, fun c hc => ⟨?_, fun g => ?_⟩, fun c hc j hj => ?_, fun c h1 h2 => ?_, fun a ha t ht => ?_, fun j hj => ?_, fun j hj => ?_⟩
  · by_cases e : w' = w
    · rw [e, up_eq]; omega
    · rw [up_ne e]; exact lm.1 w' hw'
  · rw [u4, u9]; exact lm.2.1
  · rw [u9]; exact lm.2.2.1
  · rw [u (5 + c) (by omega)]; exact lm.2.2.2.1 c hc
  · rw [u10]; exact Nat.le_trans lm.2.2.2.2.1 (mo 2)
  · rw [u11]; exact Nat.le_trans lm.2.2.2.2.2.1 (mo 0)
  · rw [u12]; exact Nat.le_trans lm.2.2.2.2.2.2 (mo 3)
  · by_cases e : w' = w
    · subst e
      rw [up_eq, gI_same, gI_same]
      exact ⟨rfl, rfl⟩
    · rw [up_ne e, gI_other _ _ (by omega), gI_other _ _ (by omega), gI_pL, gI_pL]
      exact sz w' hw'
  · rw [u9, gI_other _ _ (by omega), gI_other _ _ (by omega), gI_pL, gI_pL]
    exact cn
  · rw [gL_pI, gL_pI]
    by_cases e : w' = w
    · subst e
      rw [up_eq] at hj
      by_cases ej : j = P w'
      · rw [ej, gL_same, gL_same]
        exact hxy
      · rw [gL_other _ _ (by omega), gL_other _ _ (by omega)]
        exact nm w' hw' j (by omega)
    · rw [up_ne e] at hj
      rw [gL_other _ _ (by omega), gL_other _ _ (fun z => e (mc_i hw' hw z.1))]
      exact nm w' hw' j hj
  · rw [u (5 + c) (by omega), gI_other _ _ (by omega), gI_pL]
    exact (ps c hc).1
  · rw [u10] at g
    rw [u (5 + c) (by omega), gI_other _ _ (by omega), gI_pL]
    exact (ps c hc).2 g
  · rw [u10] at hc
    rw [u (5 + c) (by omega)] at hj
    have h2 : P 2 ≤ 4 := lm.1 2 (by omega)
    have h10 := lm.2.2.2.2.1
    rw [gL_pI, gL_pI, gL_other _ _ (by omega), gL_other _ _ (by omega)]
    exact pn c hc j hj
  · rw [u10] at h1
    rw [u (5 + c) (by omega)]
    exact pz c h1 h2
  · rw [u11, gI_other _ _ (by omega), gI_other _ _ (by omega), gI_pL, gI_pL]
    exact mb a ha t ht
  · rw [u12] at hj
    exact bv j hj
  · rw [u4] at hj
    refine RuD.mono ?_ (mo 0) (mo 3)
    refine (ru j hj).fr (fun a c g1 g2 => ⟨?_, ?_, rfl, rfl⟩) (fun a g1 g2 => ⟨?_, rfl⟩) (fun c hc => ?_) (fun e he => ⟨?_, ?_⟩)
    · rw [gI_other _ _ (by omega), gI_pL]
    · rw [gL_pI, gL_other _ _ (by omega)]
    · rw [gI_other _ _ (by omega), gI_pL]
    · rw [gI_other _ _ (by omega), gI_pL]
    · rw [gI_other _ _ (by omega), gI_pL]
    · rw [gI_other _ _ (by omega), gI_pL]
theorem d125 {v1 v3 v4 v5 : Int32} {v2 : Nat} (hb : ¬ gI M 0 7 = 0) (hi : inbd (5 * v5 + v1) 10 = true) : m_declare_J125 v1 v2 v3 v4 v5 M = some M := by
  unfold m_declare_J125
  rw [if_pos hi, fail_1 hb, Option.bind_some]
  unfold m_declare_J146
  rw [if_neg hb]
  split <;> rfl
theorem d113 {v1 v3 v4 v5 : Int32} {v2 : Nat} (h0 : gI M 0 7 = 0) (hi : inbd (5 * v5 + v1) 10 = true) : m_declare_J113 v1 v2 v3 v4 v5 true M = some (mF M 3) := by
  unfold m_declare_J113
  rw [if_pos rfl, fail_0 h0, Option.bind_some]
  exact d125 (M := mF M 3) (mF_b (by decide)) hi
/-- a name is declared on both sides -/
theorem decl (hE : Ew E) (h : AX E P X S M i) (hX : Sta (xN (eD E)) (yN (eB E)) X) {w k a : Nat} {x1 x3 x4 : Int32} (hw : w < 4) (hk : k = eD E + 1 + 2 * w) (ha : a = mc w) (h1 : x1 = nI w) (h3 : x3 = nI (lim w * eB E)) (h4 : x4 = nI (lim w)) : ∃ nm t, cTokens_name S = some nm ∧ cPolicy_declares (eD E) nm S = some t ∧ Ou E (fun S' M' => AX E (up P w (P w + 1)) X S' M' (i + 1)) (cReader_declare k t S) (m_declare x1 a x3 x4 M) := by
  rcases h with ⟨h, hx⟩ | h
  · by_cases hs : (tkE E i).1 = 97
    · obtain ⟨-, y1, y2⟩ := h.cu.2.2.2.1 hs
      have hD := h.dr
      have hb := hE.2.1
      have hlim := lim_le w
      obtain ⟨r0, c0, m0, s0⟩ := lkk hD (w := 0) (k := eD E + 1) (a := 3) (o := 12 * nI (eB E)) (n := gI M 2 (txN (5 * nI (eB E)))) (by omega) (by omega) rfl (nI_mul 12 _) (by rw [(bk50 hb).2]; exact (hD.sz 0 (by omega)).2) y2
      obtain ⟨r1, c1, m1, s1⟩ := lkk hD (w := 1) (k := eD E + 3) (a := 4) (o := 4 * nI (eB E)) (n := gI M 2 (txN (5 * nI (eB E) + 1))) (by omega) (by omega) rfl (nI_mul 4 _) (by rw [show txN (5 * nI (eB E) + 1) = 5 * eB E + 1 from (b51 hb).2]; exact (hD.sz 1 (by omega)).2) y2
      obtain ⟨r2, c2, m2, s2⟩ := lkk hD (w := 2) (k := eD E + 5) (a := 5) (o := 4 * nI (eB E)) (n := gI M 2 (txN (5 * nI (eB E) + 2))) (by omega) (by omega) rfl (nI_mul 4 _) (by rw [show txN (5 * nI (eB E) + 2) = 5 * eB E + 2 from (b52 hb).2]; exact (hD.sz 2 (by omega)).2) y2
      obtain ⟨r3, c3, m3, s3⟩ := lkk hD (w := 3) (k := eD E + 7) (a := 7) (o := 3 * nI (eB E)) (n := gI M 2 (txN (5 * nI (eB E) + 3))) (by omega) (by omega) rfl (nI_mul 3 _) (by rw [show txN (5 * nI (eB E) + 3) = 5 * eB E + 3 from (b53 hb).2]; exact (hD.sz 3 (by omega)).2) y2
      have l0 : P 0 ≤ 12 := hD.lm.1 0 (by omega)
      have l1 : P 1 ≤ 4 := hD.lm.1 1 (by omega)
      have l2 : P 2 ≤ 4 := hD.lm.1 2 (by omega)
      have l3 : P 3 ≤ 3 := hD.lm.1 3 (by omega)
      have q0 := sg_r s0 (by omega)
      have q1 := sg_r s1 (by omega)
      have q2 := sg_r s2 (by omega)
      have q3 := sg_r s3 (by omega)
      have hT : m_typeOf (nI (eB E)) (tkE E i).2.2.2.2 M = some r0 := by
        unfold m_typeOf
        rw [if_pos (bk50 hb).1, m0, Option.bind_some]
      have hC : m_classOf (nI (eB E)) (tkE E i).2.2.2.2 M = some r2 := by
        unfold m_classOf
        rw [if_pos (b52 hb).1, m2, Option.bind_some]
      obtain ⟨wd, w1, w2, w3⟩ := wo_m y2
      have hin : inbd (5 * nI (eB E) + x1) 10 = true := by rw [h1]; exact (bk5 hb (by omega)).1
      have hin2 : txN (5 * nI (eB E) + x1) = 5 * eB E + w := by rw [h1]; exact (bk5 hb (by omega)).2
      have hword : cTokens_word S = some wd := by
        have hn := nmE h.tc
        unfold cTokens_name at hn
        unfold cTokens_word
        by_cases g : inbd (gI S 3 4) 481 = true
        · rw [if_pos g] at hn ⊢
          rw [Option.some.inj hn, w1, Option.bind_some, if_pos w2]
        · rw [if_neg g] at hn
          exact absurd hn (by simp)
      -- both fall with 3
      have bad3 : ∀ t, (t = true ∨ wd ≠ 0) → Ou E (fun S' M' => AX E (up P w (P w + 1)) X S' M' (i + 1)) (cReader_declare k t S) (some (mF M 3)) := by
        intro t ht
        have e : cReader_declare k t S = some (pI S 2 2 3, false) := by
          unfold cReader_declare cReader_declare_J35 cReader_refuse
          rw [is97 h.tc, Option.bind_some, decide_eq_true hs, if_pos rfl]
          by_cases g : t = true
          · rw [if_pos g]
            rfl
          · rw [if_neg g, hword, Option.bind_some, if_pos w2, if_neg (ht.resolve_left g)]
            rfl
        rw [e]
        exact Ou.f (rf_lv h (by decide)).2
      have mdl : m_declare x1 a x3 x4 M = if wd ≠ 0 ∨ ¬ r0 = -1 ∨ ¬ r1 = -1 ∨ ¬ r2 = -1 ∨ ¬ r3 = -1 then some (mF M 3) else m_declare_J125 x1 a x3 x4 (nI (eB E)) M := by
        unfold m_declare
        rw [own hE h.fm, Option.bind_some, in_y h hs, Option.bind_some, if_pos rfl, y1]
        by_cases gw : wd = 0
        · have hw0 : m_isWord (tkE E i).2.2.2.2 = some false := by
            rcases w3 with ⟨-, -, g⟩ | ⟨g, -⟩
            · exact isw_0 g
            · omega
          rw [hw0, Option.bind_some, if_neg Bool.false_ne_true, hT, Option.bind_some]
          by_cases g0 : r0 = -1
          · rw [if_neg (q0.1 g0).1, if_pos (b51 hb).1, m1, Option.bind_some]
            by_cases g1 : r1 = -1
            · rw [if_neg (q1.1 g1).1, hC, Option.bind_some]
              by_cases g2 : r2 = -1
              · rw [if_neg (q2.1 g2).1, if_pos (b53 hb).1, m3, Option.bind_some]
                by_cases g3 : r3 = -1
                · rw [if_pos (q3.1 g3).2, if_neg (by simp [gw, g0, g1, g2, g3])]
                  unfold m_declare_J113
                  rw [if_neg Bool.false_ne_true]
                · rw [if_neg (q3.2 g3).2, if_pos (Or.inr (Or.inr (Or.inr (Or.inr g3))))]
                  exact d113 h.ok hin
              · rw [if_pos (q2.2 g2).1, if_pos (Or.inr (Or.inr (Or.inr (Or.inl g2))))]
                exact d113 h.ok hin
            · rw [if_pos (q1.2 g1).1, if_pos (Or.inr (Or.inr (Or.inl g1)))]
              exact d113 h.ok hin
          · rw [if_pos (q0.2 g0).1, if_pos (Or.inr (Or.inl g0))]
            exact d113 h.ok hin
        · have hw1 : m_isWord (tkE E i).2.2.2.2 = some true := by
            rcases w3 with ⟨g, -, -⟩ | ⟨g, -, g'⟩
            · exact absurd g gw
            · rw [g']; exact isw_1 wd w2 g
          rw [hw1, Option.bind_some, if_pos rfl, if_pos (Or.inl gw)]
          exact d113 h.ok hin
      have dcs : ∃ t, cPolicy_declares (eD E) (tkE E i).2.2.2.1 S = some t ∧ (t = false ↔ r0 = -1 ∧ r1 = -1 ∧ r2 = -1 ∧ r3 = -1) := by
        unfold cPolicy_declares
        rw [c0, Option.bind_some]
        by_cases g0 : r0 = -1
        · rw [if_pos g0, c1, Option.bind_some]
          by_cases g1 : r1 = -1
          · rw [if_pos g1, c2, Option.bind_some]
            by_cases g2 : r2 = -1
            · rw [if_pos g2, c3, Option.bind_some]
              by_cases g3 : r3 = -1
              · rw [if_pos g3]
                exact ⟨false, rfl, by simp [g0, g1, g2, g3]⟩
              · rw [if_neg g3]
                exact ⟨true, rfl, by simp [g3]⟩
            · rw [if_neg g2]
              exact ⟨true, rfl, by simp [g2]⟩
          · rw [if_neg g1]
            exact ⟨true, rfl, by simp [g1]⟩
        · rw [if_neg g0]
          exact ⟨true, rfl, by simp [g0]⟩
      obtain ⟨t, t1, t2⟩ := dcs
      refine ⟨_, t, nmE h.tc, t1, ?_⟩
      rw [mdl]
      by_cases gz : wd ≠ 0 ∨ ¬ r0 = -1 ∨ ¬ r1 = -1 ∨ ¬ r2 = -1 ∨ ¬ r3 = -1
      · rw [if_pos gz]
        apply bad3
        by_cases g : t = true
        · exact Or.inl g
        · right
          have ht : t = false := by simpa using g
          have := t2.mp ht
          rcases gz with g | g | g | g | g
          · exact g
          · exact absurd this.1 g
          · exact absurd this.2.1 g
          · exact absurd this.2.2.1 g
          · exact absurd this.2.2.2 g
      · rw [if_neg gz]
        have gw : wd = 0 := Decidable.byContradiction (fun z => gz (Or.inl z))
        have g0 : r0 = -1 := Decidable.byContradiction (fun z => gz (Or.inr (Or.inl z)))
        have g1 : r1 = -1 := Decidable.byContradiction (fun z => gz (Or.inr (Or.inr (Or.inl z))))
        have g2 : r2 = -1 := Decidable.byContradiction (fun z => gz (Or.inr (Or.inr (Or.inr (Or.inl z)))))
        have g3 : r3 = -1 := Decidable.byContradiction (fun z => gz (Or.inr (Or.inr (Or.inr (Or.inr z)))))
        have ht : t = false := t2.mpr ⟨g0, g1, g2, g3⟩
        subst ht
        have hsz := hD.sz w hw
        have hln : ln (k + 1) = lim w := by rw [hk]; exact ln_d hE.1 hw
        have hkc : gI S k 1 = nI (P w) := by rw [hk]; exact hsz.1
        have hPl := hD.lm.1 w hw
        have e : cReader_declare k false S = (cNames_add k (tkE E i).2.2.2.1 S).bind fun q49 => (if q49.2 = true then ((cTokens_advance q49.1).bind fun q65 => some (q65, true)) else ((cReader_refuse 4 q49.1).bind fun q57 => some (q57.1, q57.2))) := by
          unfold cReader_declare
          rw [is97 h.tc, Option.bind_some, decide_eq_true hs, if_pos rfl, if_neg Bool.false_ne_true, hword, Option.bind_some, if_pos w2, if_pos gw, nmE h.tc, Option.bind_some]
        rw [e]
        unfold cNames_add m_declare_J125
        rw [hln, hkc, if_pos hin, hin2, hsz.2, h4]
        by_cases hlt : P w < lim w
        · rw [if_pos (nI_lt hlt (by omega)), if_pos (inb_nI hlt (by omega)), tx_nI (by omega), if_neg (fun z => absurd ((nI_eq (by omega) (by omega)).mp z) (by omega))]
          unfold m_declare_J146
          have hbl : lim w * eB E ≤ lim w := by
            have := Nat.mul_le_mul_left (lim w) hb
            omega
          have hlm : lnM a = 2 * lim w := by rw [ha]; exact lnM_w hw
          rw [if_pos h.ok, if_pos hin, hin2, hsz.2, h3, nI_add, if_pos (inb_nI (by omega) (by omega)), tx_nI (by omega), y1]
          simp only [bd]
          rw [if_pos hin, if_pos hin, hin2]
          simp only [gI_pL]
          rw [hsz.2, hkc, nI_1, Option.bind_some, if_pos rfl]
          have hD' := hD.nm1 hw hlt y2
          subst hk ha
          have hc' : eqC (xO (eD E)) S (pI (pL S (eD E + 1 + 2 * w + 1) (P w) (tkE E i).2.2.2.1) (eD E + 1 + 2 * w) 1 (nI (P w + 1))) := ((eqC.rf _ _).L _ (nxO (by omega) (by omega))).I _ (nxO (by omega) (by omega))
          have hm' : eqC (yO (eB E)) M (pI (pL M (mc w) (lim w * eB E + P w) (tkE E i).2.2.2.2) 2 (5 * eB E + w) (nI (P w + 1))) := ((eqC.rf _ _).L _ (nyO (mcD hw hlt))).I _ (nyO (y_2 (by omega) (by omega)))
          have hL := h.up hc' hm' hD'
          have hx' := hX _ _ _ _ hx (((eqC.rf (xN (eD E)) S).L _ (nxN_d (by omega) (by omega))).I _ (nxN_d (by omega) (by omega)) : eqC (xN (eD E)) S (pI (pL S (eD E + 1 + 2 * w + 1) (P w) (tkE E i).2.2.2.1) (eD E + 1 + 2 * w) 1 (nI (P w + 1)))) (((eqC.rf (yN (eB E)) M).L _ (nyN (mcD hw hlt))).I _ (nyN (y_2 (by omega) (by omega))) : eqC (yN (eB E)) M (pI (pL M (mc w) (lim w * eB E + P w) (tkE E i).2.2.2.2) 2 (5 * eB E + w) (nI (P w + 1))))
          obtain ⟨M', e1, e2, e3⟩ := adX (hX.mono (fun _ _ g => xN_T g) (fun _ _ g => yN_T g)) hL hx' (by rw [hs]; decide)
          rw [e1, e2, Option.bind_some, Option.bind_some]
          exact Ou.t e3
        · have hPe : P w = lim w := by omega
          rw [hPe, if_neg (nI_nlt (Nat.le_refl _) (by omega)), if_pos rfl, Option.bind_some]
          rw [if_neg Bool.false_ne_true]
          unfold cReader_refuse m_declare_J146
          obtain ⟨f1, f2⟩ := rf_lv h (k := 4) (by decide)
          rw [f1, Option.bind_some, if_neg (mF_b (by decide))]
          exact Ou.f f2
    · refine ⟨0, false, nm0 h hs, dcl_0 h.dr.dc, ?_⟩
      unfold cReader_declare cReader_refuse m_declare
      rw [is97 h.tc, Option.bind_some, decide_eq_false hs, if_neg Bool.false_ne_true, own hE h.fm, Option.bind_some, in_n h hs, Option.bind_some, if_neg Bool.false_ne_true]
      exact Ou.f (rf_lv h (by decide)).2
  · refine ⟨0, false, h.n0, dcl_0 h.dc, ?_⟩
    unfold cReader_declare cReader_refuse
    rw [is97 h.tc, Option.bind_some, decide_eq_false (by rw [h.is]; decide), if_neg Bool.false_ne_true, dc_b h.nb]
    exact Ou.f (rf_li h)
end DCL
