section RUX
variable {E : EnvR} {P : Nat → Nat} {S S' S0 : CS} {M M' M'' : MS} {i k r d b : Nat} {X Y : CS → MS → Prop} {Q2 : CS → MS → Prop}
def rsf (v1 v4 v5 : Int32) (q157 : MS) : Option MS := (if (gI q157 0 7) = 0 then (if (gI q157 0 5) = 1 then (if (gL q157 0 11) = 5001990 then m_readRule_J197 v1 v4 v5 true v5 q157 else m_readRule_J196 v1 v4 v5 v5 q157) else m_readRule_J196 v1 v4 v5 v5 q157) else m_readRule_J196 v1 v4 v5 v5 q157)
theorem bsf (hE : Ew E) {m : Nat} (hm : m < 24) (v1 v4 : Int32) : BM E (rsf v1 v4 (nI (24 * eB E + m))) := by
  refine (b197 hE hm v1 v4 false).eq (fun M hb _ => ?_)
  unfold rsf m_readRule_J196
  rw [if_neg hb]
/-- from the first set on -/
theorem rul_s (hE : Ew E) (hm : P 4 < 24) (hk : k = eD E + 21 + 4 * P 4) (hr : r = 24 * eB E + P 4) (hX : Sta (xU (eD E) (P 4)) (yU (eB E) (P 4)) X) (h10 : P 10 = P 2) (h9 : P 4 < P 9) {w p : Nat} (hw : w < 5) (hp : p ≤ 480) (hi2 : 1 ≤ i) (h : AX E P (fun S M => ((((X S M ∧ RB S M k r w p (P 3)) ∧ Cz S M k r) ∧ gI S k 9 = 0) ∧ Z4 S (k + 2)) ∧ Z4 S (k + 1)) S M i) : Ou E (fun S' M' => ∃ i', i < i' ∧ AX E (up P 4 (P 4 + 1)) (fun S M => X S M ∧ gI S k 1 = nI p) S' M' i') ((cReader_readTypes (k + 1) S).bind fun q79 => (if q79.2 = true then ((cTokens_skipWord 14 q79.1).bind fun q95 => (if (gB (pB q95.1 k 6 q95.2) k 6) = true then cReader_readRule_J119 (w + 5) k (pB q95.1 k 6 q95.2) else ((cReader_readTypes (k + 2) (pB q95.1 k 6 q95.2)).bind fun q113 => (if q113.2 = true then cReader_readRule_J119 (w + 5) k q113.1 else some (q113.1, false))))) else some (q79.1, false))) ((m_readSet (2 * nI r) M).bind (rsf (nI w) (nI (eB E)) (nI r))) := by
  have hb := hE.2.1
  have hd := hE.1
  have hin : inbd (nI r) 48 = true := inb_nI (by omega) (by omega)
  have htx : txN (nI r) = r := tx_nI (by omega)
  have hbm : BM E (rsf (nI w) (nI (eB E)) (nI r)) := by rw [hr]; exact bsf hE hm _ _
  have hb225 : BM E (m_readRule_J225 (nI w) (nI (eB E)) (nI r)) := by rw [hr]; exact b225 hE hm _ _
  have e2r : (2 : Int32) * nI r = nI (2 * r) := nI_mul 2 r
  have e2r1 : (2 : Int32) * nI r + 1 = nI (2 * r + 1) := by rw [e2r, nI_1]
  -- what stays where
  have hXg : ∀ {x y : Nat → Nat → Prop}, (∀ a j, a ≠ k → a ≠ k + 1 → a ≠ k + 2 → a ≠ k + 3 → ¬ (a = 3 ∧ j = 4) → x a j) → (∀ a j, yTk a j → ¬ yR (eB E) (P 4) a j → y a j) → Sta x y X := fun hx hy => hX.mono (fun a j g => hx a j (fun z => g.2.1 ⟨by omega, by omega⟩) (fun z => g.2.1 ⟨by omega, by omega⟩) (fun z => g.2.1 ⟨by omega, by omega⟩) (fun z => g.2.1 ⟨by omega, by omega⟩) g.1) (fun a j g => hy a j g.1 g.2.1)
  have ny : ∀ a j, yR (eB E) (P 4) a j ↔ ((11 ≤ a ∧ a ≤ 19 ∧ j = r) ∨ (a = 20 ∧ 4 * r ≤ j ∧ j < 4 * r + 4) ∨ ((a = 21 ∨ a = 22) ∧ 2 * r ≤ j ∧ j < 2 * r + 2)) := by
    intro a j
    unfold yR
    rw [hr]
  have hXq : ∀ q s, (q = k + 1 ∧ s = 2 * r) ∨ (q = k + 2 ∧ s = 2 * r + 1) → Sta (xQ q) (yQ s) X := fun q s hq => hXg (fun a j g0 g1 g2 g3 g4 => ⟨g4, by omega⟩) (fun a j g1 g2 => ⟨g1, fun z => g2 ((ny a j).mpr (by omega))⟩)
  have hXp : Sta (xP k) (yP r) X := hXg (fun a j g0 g1 g2 g3 g4 => ⟨g4, by omega, g3⟩) (fun a j g1 g2 => ⟨g1, fun z => g2 ((ny a j).mpr (by omega)), fun z => g2 ((ny a j).mpr (by omega)), fun z => g2 ((ny a j).mpr (by omega))⟩)
  have qx : ∀ q a j, 7 ≤ a → a ≠ q → xQ q a j := fun q a j h1 h2 => ⟨by omega, h2⟩
  have qy : ∀ s a j, a ≠ 0 → ¬ ((a = 21 ∨ a = 22) ∧ j = s) → yQ s a j := fun s a j h1 h2 => ⟨yT_n h1, h2⟩
  have sB : ∀ q s, q = k + 1 ∨ q = k + 2 → Sta (xQ q) (yQ s) (fun S M => RB S M k r w p (P 3)) := fun q s hq => RB.st (fun j _ => qx _ _ _ (by omega) (by omega)) (qy _ _ _ (by omega) (by omega)) (qy _ _ _ (by omega) (by omega)) (qy _ _ _ (by omega) (by omega)) (qy _ _ _ (by omega) (by omega))
  have sC : ∀ q s, q = k + 1 ∨ q = k + 2 → Sta (xQ q) (yQ s) (fun S M => Cz S M k r) := fun q s hq => Cz.st (fun j => qx _ _ _ (by omega) (by omega)) (fun c hc => qy _ _ _ (by omega) (by omega))
  have s9 : ∀ q s, q = k + 1 ∨ q = k + 2 → Sta (xQ q) (yQ s) (fun S _ => gI S k 9 = 0) := fun q s hq S M S' M' g e1 e2 => (e1 k 9 (qx _ _ _ (by omega) (by omega))).1.trans g
  have sZ : ∀ (x y : Nat → Nat → Prop) q, (∀ j, x q j) → Sta x y (fun S _ => Z4 S q) := fun x y q hx S M S' M' g e1 e2 => ⟨(e1 q 2 (hx 2)).1.trans g.1, (e1 q 3 (hx 3)).1.trans g.2.1, (e1 q 4 (hx 4)).1.trans g.2.2.1, (e1 q 5 (hx 5)).1.trans g.2.2.2⟩
  have hXA : Sta (xQ (k + 1)) (yQ (2 * r)) (fun S M => (((X S M ∧ RB S M k r w p (P 3)) ∧ Cz S M k r) ∧ gI S k 9 = 0) ∧ Z4 S (k + 2)) := Sta.an (Sta.an (Sta.an (Sta.an (hXq _ _ (Or.inl ⟨rfl, rfl⟩)) (sB _ _ (Or.inl rfl))) (sC _ _ (Or.inl rfl))) (s9 _ _ (Or.inl rfl))) (sZ _ _ _ (fun j => qx _ _ _ (by omega) (by omega)))
  rw [e2r]
  refine (rd_set hE hm (by omega) (by omega) (by omega) hXA h).sq hbm (fun _ => rfl) (fun S1 M1 h1 => ?_)
  obtain ⟨j1, hj1, h1⟩ := h1
  dsimp only
  rw [if_pos rfl]
  -- at the type of the target
  have hy19 : yR (eB E) (P 4) 19 r := (ny _ _).mpr (by omega)
  have hc6 : ∀ (T : CS) v, eqC (xW (eD E) (P 4)) T (pB T k 6 v) := fun T v => (eqC.rf _ _).B v (nxW (by omega) (by omega))
  have hm19 : ∀ (T : MS) v, eqC (yW (eB E) (P 4)) T (pB T 19 r v) := fun T v => (eqC.rf _ _).B v (nyW hy19)
  have ca : ∀ (T : CS) (N : MS) v, ((((X T N ∧ RB T N k r w p (P 3)) ∧ Cz T N k r) ∧ gI T k 9 = 0) ∧ Z4 T (k + 2)) ∧ SetR T N (k + 1) (2 * r) → ((((X (pB T k 6 v) (pB N 19 r v) ∧ RB (pB T k 6 v) (pB N 19 r v) k r w p (P 3)) ∧ Cz (pB T k 6 v) (pB N 19 r v) k r) ∧ gI (pB T k 6 v) k 9 = 0) ∧ Z4 (pB T k 6 v) (k + 2)) ∧ SetR (pB T k 6 v) (pB N 19 r v) (k + 1) (2 * r) := by
    rintro T N v ⟨⟨⟨⟨⟨g1, g2, g3, g4, g5, g6⟩, g7⟩, g8⟩, g9⟩, g10⟩
    refine ⟨⟨⟨⟨⟨hX _ _ _ _ g1 ((eqC.rf _ _).B _ (fun z => z.2.1 ⟨by omega, by omega⟩)) ((eqC.rf _ _).B _ (fun z => z.2.1 hy19)), g2, g3, g4, g5, ?_⟩, g7⟩, g8⟩, g9⟩, ?_⟩
    · rw [gB_other _ _ (by omega), gB_other _ _ (by omega)]
      exact g6
    · exact g10.fr (fun j => ⟨rfl, gB_other _ _ (by omega)⟩) rfl rfl
  -- the rest behind the target
  have tail : ∀ (T : CS) (N : MS) j, i + 1 ≤ j → AX E P (fun S M => ((((X S M ∧ RB S M k r w p (P 3)) ∧ Cz S M k r) ∧ gI S k 9 = 0) ∧ SetR S M (k + 1) (2 * r)) ∧ Sf S M k r) T N j → Ou E (fun S' M' => ∃ i', i < i' ∧ AX E (up P 4 (P 4 + 1)) (fun S M => X S M ∧ gI S k 1 = nI p) S' M' i') (cReader_readRule_J119 (w + 5) k T) (m_readRule_J225 (nI w) (nI (eB E)) (nI r) N) := by
    intro T N j hj hT
    refine (rul_t hE hm hk hr hXp h10 h9 hw hp (by omega) (hT.im (fun S M g => ⟨⟨⟨g.1.1.1.1, g.1.2, g.2⟩, g.1.1.1.2⟩, g.1.1.2⟩))).im ?_
    rintro S2 M2 ⟨i', p1, p2⟩
    exact ⟨i', by omega, p2⟩
  rcases skw h1 (w := 14) (by omega) (by omega) with ⟨k1, k2⟩ | ⟨k1, k2, k3, k4, k5⟩
  · rw [k1, Option.bind_some]
    dsimp only
    rw [gB_same, if_neg Bool.false_ne_true]
    have hmod : rsf (nI w) (nI (eB E)) (nI r) M1 = m_readRule_J196 (nI w) (nI (eB E)) (nI r) (nI r) M1 := by
      unfold rsf
      by_cases g7 : gI M1 0 7 = 0
      · rw [if_pos g7]
        by_cases g5 : gI M1 0 5 = 1
        · have hl : Lv E P S1 M1 j1 := by
            rcases h1 with h1 | h1
            · exact h1.1
            · exact absurd g7 h1.nb
          rw [if_pos g5, if_neg (show ¬ gL M1 0 11 = 5001990 from k2 hl g5)]
        · rw [if_neg g5]
      · rw [if_neg g7]
    rw [hmod]
    unfold m_readRule_J196 m_readRule_J197
    simp only [bd]
    rw [if_pos hin, if_pos hin, htx, gB_same, if_neg Bool.false_ne_true, e2r1]
    have hXB : Sta (xQ (k + 2)) (yQ (2 * r + 1)) (fun S M => ((((X S M ∧ RB S M k r w p (P 3)) ∧ Cz S M k r) ∧ gI S k 9 = 0) ∧ SetR S M (k + 1) (2 * r)) ∧ (gB S k 6 = false ∧ gB M 19 r = false)) := Sta.an (Sta.an (Sta.an (Sta.an (Sta.an (hXq _ _ (Or.inr ⟨rfl, rfl⟩)) (sB _ _ (Or.inr rfl))) (sC _ _ (Or.inr rfl))) (s9 _ _ (Or.inr rfl))) (SetR.sx (fun j => qx _ _ _ (by omega) (by omega)) (qy _ _ _ (by omega) (by omega)) (qy _ _ _ (by omega) (by omega)))) (fun S M S' M' g e1 e2 => ⟨(e1 k 6 (qx _ _ _ (by omega) (by omega))).2.2.2.trans g.1, (e2 19 r (qy _ _ _ (by omega) (by omega))).2.2.2.trans g.2⟩)
    have h2 : AX E P (fun S M => (((((X S M ∧ RB S M k r w p (P 3)) ∧ Cz S M k r) ∧ gI S k 9 = 0) ∧ SetR S M (k + 1) (2 * r)) ∧ (gB S k 6 = false ∧ gB M 19 r = false)) ∧ Z4 S (k + 2)) (pB S1 k 6 false) (pB M1 19 r false) j1 := h1.wr hm (hc6 _ _) (hm19 _ _) (fun _ g => by
      have q := ca _ _ false g
      exact ⟨⟨⟨q.1.1, q.2⟩, gB_same _ _ _ _, gB_same _ _ _ _⟩, q.1.2⟩)
    refine (rd_set hE hm (by omega) (by omega) (by omega) hXB h2).sq hb225 (fun _ => rfl) (fun S2 M2 h3 => ?_)
    obtain ⟨j2, hj2, h3⟩ := h3
    dsimp only
    rw [if_pos rfl]
    exact tail _ _ j2 (by omega) (h3.im (fun S M g => ⟨g.1.1, g.1.2.1.trans g.1.2.2.symm, fun _ => g.2⟩))
  · rw [k1, Option.bind_some]
    dsimp only
    rw [gB_same, if_pos rfl]
    unfold rsf
    rw [if_pos k2.ok, if_pos k4, if_pos (show gL M1 0 11 = 5001990 from k5)]
    unfold m_readRule_J197
    simp only [bd]
    rw [if_pos hin, if_pos hin, htx, gB_same, if_pos rfl]
    have hL := k2.wr hm (hc6 S1 true) (hm19 M1 true)
    have q := ca _ _ true (h1.get k2)
    have hXT : Sta xT yTk (fun S M => ((((X S M ∧ RB S M k r w p (P 3)) ∧ Cz S M k r) ∧ gI S k 9 = 0) ∧ SetR S M (k + 1) (2 * r)) ∧ Sf S M k r) := Sta.an (Sta.an (Sta.an (Sta.an (Sta.an hXp.p (sB (k + 1) (2 * r) (Or.inl rfl)).q) (sC (k + 1) (2 * r) (Or.inl rfl)).q) (s9 (k + 1) (2 * r) (Or.inl rfl)).q) (SetR.st (by omega))) (Sf.st (fun z => by omega) (yT_n (by omega)) (fun j z => by omega) (yT_n (by omega)) (yT_n (by omega)))
    obtain ⟨M2, z1, z2, z3⟩ := adX hXT hL ⟨⟨q.1.1, q.2⟩, by rw [gB_same, gB_same], fun z => by rw [gB_same] at z; exact absurd z.symm Bool.false_ne_true⟩ (by rw [k3]; decide)
    rw [z1, Option.bind_some]
    exact tail _ _ (j1 + 1) (by omega) z3
theorem rd_rule (hE : Ew E) (h : Lv E P S M i) (hx : X S M) (hs : (tkE E i).1 = 97) (hp : Pc P) {w : Nat} (hw : w < 5) (hX : Sta (xU (eD E) (P 4)) (yU (eB E) (P 4)) X) {x1 x2 : Int32} {x3 : Bool} (h1 : x1 = nI w) (hcd : (gI S 2 4 = -1 ∧ x2 = -1) ∨ ∃ c, c < P 3 ∧ gI S 2 4 = nI c ∧ x2 = nI c ∧ gB S 2 5 = !x3) : Ou E (fun S' M' => ∃ P' i', i < i' ∧ Pc P' ∧ P' 4 = P 4 + 1 ∧ (∀ n, n < 4 → P' n = P n) ∧ AX E P' (fun S M => X S M ∧ gI S (eD E + 21 + 4 * P 4) 1 = nI (tkE E i).2.1) S' M' i') (cReader_readRule (w + 5) S) (m_readRule x1 x2 x3 M) := by
  have hb := hE.2.1
  have hd := hE.1
  have hD := h.dr
  have h9 : P 9 = P 4 := hp.2.2.2
  have l24 := hD.lm.2.2.1
  have hpl := (tks_stp (tx := E.1) (len := E.2.1) i).1
  have hlen := hE.2.2.2
  unfold cReader_readRule m_readRule
  simp only [bd]
  rw [hD.ptr, if_pos (kd_d hd), hD.cn.1, own hE h.fm, Option.bind_some, if_pos (b54 hb).1, show txN (5 * nI (eB E) + 4) = 5 * eB E + 4 from (b54 hb).2, hD.cn.2]
  by_cases hlt : P 9 < 24
  · rw [if_pos (show nI (P 9) < 24 from nI_lt (b := 24) hlt (by omega)), if_pos (kd_d hd), if_pos (kd_d hd), if_pos (inb_nI hlt (by omega)), if_pos (kd_d hd), tx_nI (by omega), nI_1, if_neg (show ¬ nI (P 9) = 24 from fun z => absurd ((nI_eq (b := 24) (by omega) (by omega)).mp z) (by omega)), show eD E + 12 + (9 + 4 * P 9) = eD E + 21 + 4 * P 4 by omega]
    generalize hk : eD E + 21 + 4 * P 4 = k
    generalize hr : 24 * eB E + P 4 = r
    have hin : inbd (nI r) 48 = true := inb_nI (by omega) (by omega)
    have htx : txN (nI r) = r := tx_nI (by omega)
    have hr2 : 24 * nI (eB E) + nI (P 9) = nI r := by rw [show (24 : Int32) * nI (eB E) = nI (24 * eB E) from nI_mul 24 _, nI_add, h9, hr]
    -- the count
    have hD1 := hD.rc1 hlt
    have hL1 : Lv E (up P 9 (P 9 + 1)) (pI S (eD E) 8 (nI (P 9 + 1))) (pI M 2 (5 * eB E + 4) (nI (P 9 + 1))) i := h.up ((eqC.rf _ _).I _ (nxO (by omega) (by omega))) ((eqC.rf _ _).I _ (nyO (y_2 (by omega) (by omega)))) hD1
    have hx1 : X (pI S (eD E) 8 (nI (P 9 + 1))) (pI M 2 (5 * eB E + 4) (nI (P 9 + 1))) := hX _ _ _ _ hx ((eqC.rf _ _).I _ (fun z => z.2.2 ⟨rfl, rfl⟩)) ((eqC.rf _ _).I _ (fun z => z.2.2 ⟨rfl, rfl⟩))
    have c24 : gI (pI S (eD E) 8 (nI (P 9 + 1))) 2 4 = gI S 2 4 := gI_other _ _ (by omega)
    have c25 : gB (pI S (eD E) 8 (nI (P 9 + 1))) 2 5 = gB S 2 5 := rfl
    have m03 : gI (pI M 2 (5 * eB E + 4) (nI (P 9 + 1))) 0 3 = nI (tkE E i).2.1 := by rw [gI_other _ _ (by omega)]; exact h.cu.1
    generalize pI S (eD E) 8 (nI (P 9 + 1)) = S1 at hL1 hx1 c24 c25 ⊢
    unfold m_readRule_J27
    simp only [bd]
    rw [if_pos h.ok, if_pos (b54 hb).1, show txN (5 * nI (eB E) + 4) = 5 * eB E + 4 from (b54 hb).2, hD.cn.2, if_pos (b54 hb).1, if_pos (b54 hb).1, nI_1, hr2]
    simp only [if_pos hin, htx]
    generalize pI M 2 (5 * eB E + 4) (nI (P 9 + 1)) = M1 at hL1 hx1 m03 ⊢
    rw [plE hL1.tc, Option.bind_some, c24, c25]
    obtain ⟨S2, s1, s2, s3, s4, s5, s6, s7, s8, s9, s10⟩ := bg (k := k) (w + 5) (nI (tkE E i).2.1) (gI S 2 4) (gB S 2 5) S1
    rw [s1, Option.bind_some, show gI (pI M1 11 r x1) 0 3 = nI (tkE E i).2.1 by rw [gI_other _ _ (by omega)]; exact m03]
    generalize hM2 : pI (pI (pB (pI (pI (pI M1 11 r x1) 12 r (nI (tkE E i).2.1)) 13 r x2) 18 r x3) 16 r 0) 17 r (-1) = M2
    obtain ⟨M3, t1, t2, -, t4⟩ := l123 (v1 := x1) (v4 := nI (eB E)) (r := r) (by omega) 4 0 (by omega) 600 (by omega) M2
    have t1' : m_readRule_L123 x1 (nI (eB E)) (nI r) 600 0 M2 = tl x1 (nI (eB E)) (nI r) M3 := t1
    rw [t1']
    have hyr : ∀ a, 11 ≤ a → a ≤ 19 → yR (eB E) (P 4) a r := fun a g1 g2 => Or.inl ⟨g1, g2, hr.symm⟩
    have w1 : eqC (yW (eB E) (P 4)) M1 M3 := by
      refine eqC.tr (T := M2) ?_ (t2.mono (fun a j g z => g (Or.inr (Or.inl ⟨z.1, by omega, by omega⟩))))
      rw [← hM2]
      exact ((((((eqC.rf _ _).I _ (nyW (hyr 11 (by omega) (by omega)))).I _ (nyW (hyr 12 (by omega) (by omega)))).I _ (nyW (hyr 13 (by omega) (by omega)))).B _ (nyW (hyr 18 (by omega) (by omega)))).I _ (nyW (hyr 16 (by omega) (by omega)))).I _ (nyW (hyr 17 (by omega) (by omega)))
    have w2 : eqC (xW (eD E) (P 4)) S1 S2 := s2.mono (fun a j g z => g ⟨by omega, by omega⟩)
    have u4 : up P 9 (P 9 + 1) 4 = P 4 := up_ne (by omega)
    have u3 : up P 9 (P 9 + 1) 3 = P 3 := up_ne (by omega)
    have hL2 : Lv E (up P 9 (P 9 + 1)) S2 M3 i := hL1.wr (by rw [u4]; omega) (by rw [u4]; exact w2) (by rw [u4]; exact w1)
    have hx2 : X S2 M3 := hX _ _ _ _ hx1 (w2.mono (fun a j g => g.2.1)) (w1.mono (fun a j g => g.2.1))
    have mI : ∀ a, 11 ≤ a → a ≤ 19 → gI M3 a r = gI M2 a r := fun a g1 g2 => (t2 a r (fun z => by omega)).1
    have hRB : RB S2 M3 k r w (tkE E i).2.1 (P 3) := by
      refine ⟨s3, ?_, s4, ?_, ?_⟩
      · rw [mI 11 (by omega) (by omega), ← hM2]; (repeat (first | rw [gI_same] | rw [gI_other _ _ (by omega)] | rw [gI_pL] | rw [gI_pB] | rw [gI_pR])); exact h1
      · rw [mI 12 (by omega) (by omega), ← hM2]; (repeat (first | rw [gI_same] | rw [gI_other _ _ (by omega)] | rw [gI_pL] | rw [gI_pB] | rw [gI_pR]))
      · have e13 : gI M3 13 r = x2 := by rw [mI 13 (by omega) (by omega), ← hM2]; (repeat (first | rw [gI_same] | rw [gI_other _ _ (by omega)] | rw [gI_pL] | rw [gI_pB] | rw [gI_pR]))
        have e18 : gB M3 18 r = x3 := by
          rw [(t2 18 r (fun z => by omega)).2.2.2, ← hM2]
          show gB (pB (pI (pI (pI M1 11 r x1) 12 r (nI (tkE E i).2.1)) 13 r x2) 18 r x3) 18 r = x3
          rw [gB_same]
        rw [s5, s6, e13, e18]
        exact hcd
    have hC : Cz S2 M3 k r := fun c hc => ⟨s10 c hc, t4 c (by omega) hc⟩
    unfold tl
    have hXT : Sta xT yTk (fun S M => ((((X S M ∧ RB S M k r w (tkE E i).2.1 (up P 9 (P 9 + 1) 3)) ∧ Cz S M k r) ∧ gI S k 9 = 0) ∧ Z4 S (k + 2)) ∧ Z4 S (k + 1)) := by
      have sZ : ∀ q, 7 ≤ q → Sta xT yTk (fun S _ => Z4 S q) := fun q hq S M S' M' g e1 e2 => ⟨(e1 q 2 (fun z => by omega)).1.trans g.1, (e1 q 3 (fun z => by omega)).1.trans g.2.1, (e1 q 4 (fun z => by omega)).1.trans g.2.2.1, (e1 q 5 (fun z => by omega)).1.trans g.2.2.2⟩
      exact Sta.an (Sta.an (Sta.an (Sta.an (Sta.an (hX.mono (fun a j g => g.1) (fun a j g => g.1)) (RB.st (fun j _ z => by omega) (yT_n (by omega)) (yT_n (by omega)) (yT_n (by omega)) (yT_n (by omega)))) (Cz.st (fun j z => by omega) (fun c hc => yT_n (by omega)))) (fun S M S' M' g e1 e2 => (e1 k 9 (fun z => by omega)).1.trans g)) (sZ _ (by omega))) (sZ _ (by omega))
    obtain ⟨M4, z1, z2, z3⟩ := adX hXT hL2 ⟨⟨⟨⟨⟨hx2, by rw [u3]; exact hRB⟩, hC⟩, s9⟩, s8⟩, s7⟩ (by rw [hs]; decide)
    rw [z1, z2, Option.bind_some, Option.bind_some, h1]
    refine (rul_s hE (P := up P 9 (P 9 + 1)) (k := k) (r := r) (by rw [u4]; omega) (by rw [u4]; exact hk.symm) (by rw [u4]; exact hr.symm) (by rw [u4]; exact hX) (by rw [up_ne (by omega), up_ne (by omega)]; exact hp.1) (by rw [u4, up_eq]; omega) hw (Nat.le_trans hpl hlen) (by omega) z3).im ?_
    rintro S5 M5 ⟨i', p1, p2⟩
    refine ⟨_, i', by omega, ⟨?_, ?_, ?_, ?_⟩, ?_, ?_, p2⟩
    · rw [up_ne (by omega), up_ne (by omega), up_ne (by omega), up_ne (by omega)]; exact hp.1
    · rw [up_ne (by omega), up_ne (by omega), up_ne (by omega), up_ne (by omega)]; exact hp.2.1
    · rw [up_ne (by omega), up_ne (by omega), up_ne (by omega), up_ne (by omega)]; exact hp.2.2.1
    · rw [up_ne (by omega), up_eq, up_eq, u4, h9]
    · rw [up_eq, u4]
    · intro n hn
      rw [up_ne (by omega), up_ne (by omega)]
  · have e24 : P 9 = 24 := by omega
    rw [e24, if_neg (show ¬ nI 24 < 24 from nI_nlt (b := 24) (Nat.le_refl _) (by omega)), if_pos (show nI 24 = 24 from rfl)]
    obtain ⟨f1, f2⟩ := rf_lv h (k := 4) (by decide)
    rw [f1, Option.bind_some]
    unfold m_readRule_J27 cReader_refuse
    rw [if_neg (mF_b (by decide))]
    exact Ou.f f2
end RUX
