/-! inside a rule: sets of types -/
def xW (d m k _j : Nat) : Prop := ¬ (d + 21 + 4 * m ≤ k ∧ k < d + 25 + 4 * m)
def yR (b m k j : Nat) : Prop := (11 ≤ k ∧ k ≤ 19 ∧ j = 24 * b + m) ∨ (k = 20 ∧ 4 * (24 * b + m) ≤ j ∧ j < 4 * (24 * b + m) + 4) ∨ ((k = 21 ∨ k = 22) ∧ 2 * (24 * b + m) ≤ j ∧ j < 2 * (24 * b + m) + 2)
def yW (b m k j : Nat) : Prop := ¬ yR b m k j
def xQ (q k j : Nat) : Prop := ¬ (k = 3 ∧ j = 4) ∧ k ≠ q
def yQ (s k j : Nat) : Prop := yTk k j ∧ ¬ ((k = 21 ∨ k = 22) ∧ j = s)
def Z4 (S : CS) (q : Nat) : Prop := gI S q 2 = 0 ∧ gI S q 3 = 0 ∧ gI S q 4 = 0 ∧ gI S q 5 = 0
theorem yR_D {b m k j : Nat} (hm : m < 24) (h : yR b m k j) : yD b 24 k j := by
  rcases h with ⟨h1, h2, h3⟩ | ⟨rfl, h2, h3⟩ | ⟨h1, h2, h3⟩
  · exact y_11 h1 h2 (by omega) (by omega)
  · exact y_20 (by omega) (by omega)
  · exact y_21 h1 (by omega) (by omega)
theorem yD_W {b m k j : Nat} (h : yD b m k j) : yW b m k j := by
  intro z
  rcases z with ⟨h1, h2, h3⟩ | ⟨rfl, h2, h3⟩ | ⟨h1, h2, h3⟩
  · exact ny_11 h1 h2 (by omega) h
  · exact ny_20 (by omega) h
  · exact ny_21 h1 (by omega) h
theorem nxW {d m k j : Nat} (h1 : d + 21 + 4 * m ≤ k) (h2 : k < d + 25 + 4 * m) : ¬ xW d m k j := fun g => g ⟨h1, h2⟩
theorem nyW {b m k j : Nat} (h : yR b m k j) : ¬ yW b m k j := fun g => g h
section SET
variable {E : EnvR} {P : Nat → Nat} {S S' S0 : CS} {M M' M'' : MS} {i : Nat} {X Y : CS → MS → Prop} {Q Q2 : CS → MS → Prop}
theorem Lv.wr (h : Lv E P S M i) (hm : P 4 < 24) (hc : eqC (xW (eD E) (P 4)) S S') (hy : eqC (yW (eB E) (P 4)) M M') : Lv E P S' M' i := by
  have hd := h.dr.hd.1
  exact h.up (hc.mono (fun k j g z => g ⟨by omega, by omega⟩)) (hy.mono (fun k j g z => g (yR_D hm z))) (h.dr.fr (hc.mono (fun k j g z => by unfold xD at g; omega)) (hy.mono (fun k j g => yD_W g)))
theorem yW_mb (hm : P 4 < 24) (hy : eqC (yW (eB E) (P 4)) M M') : MB E M M' := ⟨(hy 0 7 (by unfold yW yR; omega)).1, (hy 0 8 (by unfold yW yR; omega)).1, hy.mono (fun k j g z => g (Or.inr (yR_D hm z)))⟩
theorem AX.wr (h : AX E P X S M i) (hm : P 4 < 24) (hc : eqC (xW (eD E) (P 4)) S S') (hy : eqC (yW (eB E) (P 4)) M M') (hX : Lv E P S M i → X S M → Y S' M') : AX E P Y S' M' i := by
  rcases h with ⟨h, hx⟩ | h
  · exact Or.inl ⟨h.wr hm hc hy, hX h hx⟩
  · have hd := h.dc.hd
    exact Or.inr (h.up (hc.mono (fun k j g z => g ⟨by omega, by omega⟩)) (hc.mono (fun k j g z => by unfold xK at g; omega)) (yW_mb hm hy))
theorem mu_y {v : Int32} (h : m_passes v M = some (M', true)) : m_must v M = some M' := by
  unfold m_must
  rw [h, Option.bind_some]
  rfl
def cc (rm : Bool) : Nat := if rm = true then 22 else 21
def itm (rm : Bool) (s : Nat) (M : MS) : Option MS := (m_readItem M).bind fun p => some (pI p.1 (cc rm) s (gI M (cc rm) s ||| p.2))
theorem itm_bd (rm : Bool) (s : Nat) (M : MS) (K : MS → Option MS) : ((m_readItem M).bind fun p => K (pI p.1 (cc rm) s (gI M (cc rm) s ||| p.2))) = (itm rm s M).bind K := by
  unfold itm
  cases m_readItem M <;> rfl
theorem ri_b (hE : Ew E) (hf : FM E M) (h : ¬ gI M 0 7 = 0) : m_readItem M = some (M, 0) := by
  unfold m_readItem
  rw [own hE hf, Option.bind_some, in_b h, Option.bind_some]
  rfl
theorem itm_b (hE : Ew E) {m s : Nat} (hm : m < 24) (hs : s = 2 * (24 * eB E + m) ∨ s = 2 * (24 * eB E + m) + 1) (rm : Bool) : BM E (itm rm s) := by
  intro M hb hf
  unfold itm
  rw [ri_b hE hf hb, Option.bind_some]
  refine ⟨_, rfl, MB.rf.I _ (yR_D hm ?_)⟩
  unfold cc
  cases rm
  · exact Or.inr (Or.inr ⟨Or.inl rfl, by omega, by omega⟩)
  · exact Or.inr (Or.inr ⟨Or.inr rfl, by omega, by omega⟩)
def menS (rm : Bool) (q : Nat) (x1 x2 : Int32) (S : CS) : CS := pI (pI S q (if rm = true then 4 else 2) (gI S q (if rm = true then 4 else 2) ||| x1)) q (if rm = true then 5 else 3) (gI S q (if rm = true then 5 else 3) ||| x2)
theorem men_c (rm : Bool) (q : Nat) (x1 x2 : Int32) (S : CS) : cTypeSet_mention q x1 x2 rm S = some (menS rm q x1 x2 S) := by
  unfold cTypeSet_mention menS
  cases rm
  · simp only [bd]
    rw [if_neg Bool.false_ne_true, if_neg Bool.false_ne_true, if_neg Bool.false_ne_true, gI_other _ _ (by omega)]
  · simp only [bd, if_true]
    rw [gI_other _ _ (by omega)]
theorem men_t (rm : Bool) {q : Nat} (x1 x2 v : Int32) (S : CS) (hq : 7 ≤ q) : pI (menS rm q x1 x2 S) 3 4 v = menS rm q x1 x2 (pI S 3 4 v) := by
  unfold menS
  rw [gI_other _ _ (by omega), gI_other _ _ (by omega), pI_cm (pI S q _ _) _ v (by omega), pI_cm S _ v (by omega)]
theorem SetR.add {q s : Nat} (h : SetR S M q s) (rm : Bool) {x1 x2 v : Int32} (h1 : ∀ i, i < 32 → bt x1 i = (decide (i < 12) && bt v i)) (h2 : ∀ i, i < 32 → bt x2 i = (decide (i < 4) && bt v (12 + i))) (h3 : bt v 16 = false) (h4 : bt v 17 = false) : SetR (menS rm q x1 x2 S) (pI M (cc rm) s (gI M (cc rm) s ||| v)) q s := by
  obtain ⟨g1, g2, g3, g4, g5, g6⟩ := h
  have ad : ∀ (a b c e f : Bool), a = (f && b) → c = (f && e) → (a || c) = (f && (b || e)) := by decide
  unfold menS cc
  cases rm
  · simp only [Bool.false_eq_true, if_false]
    refine ⟨?_, ?_, fun i hi => ?_, fun i hi => ?_, fun i hi => ?_, fun i hi => ?_⟩
    · show gB S q 0 = _
      rw [gI_same, b_or, h3, Bool.or_false]; exact g1
    · show gB S q 1 = _
      rw [gI_same, b_or, h4, Bool.or_false]; exact g2
    · rw [gI_other _ _ (by omega), gI_same, gI_same, b_or, b_or]
      exact ad _ _ _ _ _ (g3 i hi) (h1 i hi)
    · rw [gI_same, gI_same, b_or, b_or]
      exact ad _ _ _ _ _ (g4 i hi) (h2 i hi)
    · rw [gI_other _ _ (by omega), gI_other _ _ (by omega), gI_other _ _ (by omega)]
      exact g5 i hi
    · rw [gI_other _ _ (by omega), gI_other _ _ (by omega), gI_other _ _ (by omega)]
      exact g6 i hi
  · simp only [if_true]
    refine ⟨?_, ?_, fun i hi => ?_, fun i hi => ?_, fun i hi => ?_, fun i hi => ?_⟩
    · show gB S q 0 = _
      rw [gI_other _ _ (by omega)]; exact g1
    · show gB S q 1 = _
      rw [gI_other _ _ (by omega)]; exact g2
    · rw [gI_other _ _ (by omega), gI_other _ _ (by omega), gI_other _ _ (by omega)]
      exact g3 i hi
    · rw [gI_other _ _ (by omega), gI_other _ _ (by omega), gI_other _ _ (by omega)]
      exact g4 i hi
    · rw [gI_other _ _ (by omega), gI_same, gI_same, b_or, b_or]
      exact ad _ _ _ _ _ (g5 i hi) (h1 i hi)
    · rw [gI_same, gI_same, b_or, b_or]
      exact ad _ _ _ _ _ (g6 i hi) (h2 i hi)
theorem SetR.st {q s : Nat} (hq : 7 ≤ q) : Sta xT yTk (fun S M => SetR S M q s) := by
  intro S M S' M' h e1 e2
  exact h.fr (fun j => ⟨(e1 q j (fun z => by omega)).1, (e1 q j (fun z => by omega)).2.2.2⟩) (e2 21 s (fun z => by omega)).1 (e2 22 s (fun z => by omega)).1
theorem Sta.an {x y : Nat → Nat → Prop} (h1 : Sta x y X) (h2 : Sta x y Y) : Sta x y (fun S M => X S M ∧ Y S M) := fun S M S' M' g e1 e2 => ⟨h1 S M S' M' g.1 e1 e2, h2 S M S' M' g.2 e1 e2⟩
theorem Sta.q {q s : Nat} (h : Sta (xQ q) (yQ s) X) : Sta xT yTk X := h.mono (fun _ _ g => g.1) (fun _ _ g => g.1)
theorem menW {d m q : Nat} (rm : Bool) (x1 x2 : Int32) (S : CS) (h1 : d + 21 + 4 * m ≤ q) (h2 : q < d + 25 + 4 * m) : eqC (xW d m) S (menS rm q x1 x2 S) := ((eqC.rf _ _).I _ (nxW h1 h2)).I _ (nxW h1 h2)
theorem menQ {q : Nat} (rm : Bool) (x1 x2 : Int32) (S : CS) : eqC (xQ q) S (menS rm q x1 x2 S) := ((eqC.rf _ _).I _ (fun z => z.2 rfl)).I _ (fun z => z.2 rfl)
theorem itW {b m s : Nat} (rm : Bool) (v : Int32) (M : MS) (hs : s = 2 * (24 * b + m) ∨ s = 2 * (24 * b + m) + 1) : eqC (yW b m) M (pI M (cc rm) s v) := by
  refine (eqC.rf _ _).I _ (nyW ?_)
  unfold cc
  cases rm
  · exact Or.inr (Or.inr ⟨Or.inl rfl, by omega, by omega⟩)
  · exact Or.inr (Or.inr ⟨Or.inr rfl, by omega, by omega⟩)
theorem itQ {s : Nat} (rm : Bool) (v : Int32) (M : MS) : eqC (yQ s) M (pI M (cc rm) s v) := by
  refine (eqC.rf _ _).I _ (fun z => z.2 ?_)
  unfold cc
  cases rm
  · exact ⟨Or.inl rfl, rfl⟩
  · exact ⟨Or.inr rfl, rfl⟩
theorem cc_21 (rm : Bool) : cc rm = 21 ∨ cc rm = 22 := by cases rm; exact Or.inl rfl; exact Or.inr rfl
theorem rtn_n (hE : Ew E) (hc : DC (eD E) P S) (ht : TC E S i) (hs : (tkE E i).1 ≠ 97) (q : Nat) (rm : Bool) : cReader_readTypeName q rm S = some (pI S 2 2 1, false) := by
  have hn : cTokens_name S = some 0 := by rw [nmE ht, (tk_so E i).2 hs]
  unfold cReader_readTypeName cReader_readTypeName_J66 cReader_refuse
  simp only [bd]
  rw [hc.ptr, if_pos (kd_d hE.1), hn, Option.bind_some, n0k hc (w := 1) (by omega) (by omega), Option.bind_some, if_pos (kd_d hE.1), Option.bind_some, n0k hc (w := 0) (by omega) (by omega), Option.bind_some, if_pos rfl, if_pos rfl, is97 ht, Option.bind_some, decide_eq_false hs, if_neg Bool.false_ne_true, Option.bind_some]
/-- one name of a set -/
theorem rd_item (hE : Ew E) (hm : P 4 < 24) {q s : Nat} (hq1 : eD E + 21 + 4 * P 4 ≤ q) (hq2 : q < eD E + 25 + 4 * P 4) (hs : s = 2 * (24 * eB E + P 4) ∨ s = 2 * (24 * eB E + P 4) + 1) (hX : Sta (xQ q) (yQ s) X) (h : AX E P (fun S M => X S M ∧ SetR S M q s) S M i) (rm : Bool) : Ou E (fun S' M' => AX E P (fun S M => X S M ∧ SetR S M q s) S' M' (i + 1)) (cReader_readTypeName q rm S) (itm rm s M) := by
  have hb := hE.2.1
  have hd := hE.1
  have hXY := Sta.an hX.q (SetR.st (q := q) (s := s) (by omega))
  have hrr := h.ptr
  rcases h with ⟨h, hx⟩ | h
  · have hD := h.dr
    by_cases hs' : (tkE E i).1 = 97
    · obtain ⟨-, y1, y2⟩ := h.cu.2.2.2.1 hs'
      obtain ⟨r0, c0, m0, s0⟩ := lkk hD (w := 0) (k := eD E + 1) (a := 3) (o := 12 * nI (eB E)) (n := gI M 2 (txN (5 * nI (eB E)))) (by omega) (by omega) rfl (nI_mul 12 _) (by rw [(bk50 hb).2]; exact (hD.sz 0 (by omega)).2) y2
      obtain ⟨r1, c1, m1, s1⟩ := lkk hD (w := 1) (k := eD E + 3) (a := 4) (o := 4 * nI (eB E)) (n := gI M 2 (txN (5 * nI (eB E) + 1))) (by omega) (by omega) rfl (nI_mul 4 _) (by rw [show txN (5 * nI (eB E) + 1) = 5 * eB E + 1 from (b51 hb).2]; exact (hD.sz 1 (by omega)).2) y2
      have l0 : P 0 ≤ 12 := hD.lm.1 0 (by omega)
      have l1 : P 1 ≤ 4 := hD.lm.1 1 (by omega)
      have q0 := sg_r s0 (by omega)
      have q1 := sg_r s1 (by omega)
      have hT : m_typeOf (nI (eB E)) (tkE E i).2.2.2.2 M = some r0 := by
        unfold m_typeOf
        rw [if_pos (bk50 hb).1, m0, Option.bind_some]
      unfold cReader_readTypeName itm m_readItem
      simp only [bd]
      rw [hrr, if_pos (kd_d hd), nmE h.tc, Option.bind_some, c1, Option.bind_some, if_pos (kd_d hd), Option.bind_some, c0, Option.bind_some, own hE h.fm, Option.bind_some, in_y h hs', Option.bind_some]
      dsimp only
      rw [if_pos rfl, y1, hT, Option.bind_some, if_pos (b51 hb).1, m1, Option.bind_some]
      obtain ⟨M2, z1, z2, z3⟩ := adX hXY h hx (by rw [hs']; decide)
      have z4 : eqC yTk M M2 := by
        obtain ⟨M3, a1, a2, a3, -⟩ := adv h (by rw [hs']; decide)
        rw [z1] at a1
        cases a1
        exact a3
      have key : ∀ x1 x2 v : Int32, (∀ i, i < 32 → bt x1 i = (decide (i < 12) && bt v i)) → (∀ i, i < 32 → bt x2 i = (decide (i < 4) && bt v (12 + i))) → bt v 16 = false → bt v 17 = false → Ou E (fun S' M' => AX E P (fun S M => X S M ∧ SetR S M q s) S' M' (i + 1)) ((cTypeSet_mention q x1 x2 rm S).bind fun w => cReader_readTypeName_J98 w) (((if gI M2 0 7 = 0 then some (M2, v) else some (M2, (0 : Int32))) : Option (MS × Int32)).bind fun p => some (pI p.1 (cc rm) s (gI M (cc rm) s ||| p.2))) := by
        intro x1 x2 v b1 b2 b3 b4
        have hcq : gI M (cc rm) s = gI M2 (cc rm) s := ((z4 (cc rm) s (fun z => by have := cc_21 rm; omega)).1).symm
        unfold cReader_readTypeName_J98
        rw [men_c, Option.bind_some]
        have ht : TC E (menS rm q x1 x2 S) i := h.tc.w ((menW rm x1 x2 S hq1 hq2).mono (fun k j g z => by omega))
        rw [(adv_c ht (by rw [hs']; decide)).2.1, Option.bind_some, men_t _ _ _ _ _ (by omega), hcq]
        rcases z3 with ⟨z3, zx⟩ | z3
        · rw [if_pos z3.ok, Option.bind_some]
          refine Ou.t (Or.inl ⟨z3.wr hm (menW rm x1 x2 _ hq1 hq2) (itW rm _ _ hs), hX _ _ _ _ zx.1 (menQ rm x1 x2 _) (itQ rm _ _), zx.2.add rm b1 b2 b3 b4⟩)
        · rw [if_neg z3.nb, Option.bind_some]
          exact Ou.t (AX.wr (X := fun _ _ => True) (Or.inr z3) hm (menW rm x1 x2 _ hq1 hq2) (itW rm _ _ hs) (fun hl _ => absurd z3.is hl.ne))
      by_cases g0 : r0 = -1
      · by_cases g1 : r1 = -1
        · rw [if_pos g1, if_pos g0, is97 h.tc, Option.bind_some, decide_eq_true hs', if_pos rfl, if_neg (q0.1 g0).1, if_neg (q1.1 g1).1]
          unfold cReader_readTypeName_J66 cReader_refuse m_readItem_J62
          obtain ⟨f1, f2⟩ := rf_lv h (k := 2) (by decide)
          have f3 := mF_b (M := M) (k := 2) (by decide)
          rw [f1, Option.bind_some, nx_b f3, Option.bind_some, if_neg f3, Option.bind_some]
          exact Ou.f (f2.mb (MB.rf.I _ (yR_D hm (by
            rcases cc_21 rm with e | e <;> rw [e]
            · exact Or.inr (Or.inr ⟨Or.inl rfl, by omega, by omega⟩)
            · exact Or.inr (Or.inr ⟨Or.inr rfl, by omega, by omega⟩)))))
        · rw [if_neg g1, if_neg (q0.1 g0).1, if_pos (q1.2 g1).1]
          unfold cReader_readTypeName_J70 m_readItem_J62
          rw [if_pos g0, z1, Option.bind_some, if_pos (q0.1 g0).2]
          obtain ⟨a, ha, rfl⟩ := s1.resolve_left g1
          rw [show (12 : Int32) + nI a = nI (12 + a) from nI_add 12 a]
          refine key 0 _ _ (fun i hi => ?_) (fun i hi => ?_) ?_ ?_
          · rw [b_0, b_sh1 (by omega) hi]
            by_cases e : i < 12
            · rw [decide_eq_true e, decide_eq_false (by omega)]; rfl
            · rw [decide_eq_false e]; rfl
          · rw [b_sh1 (by omega) hi]
            by_cases e : i < 4
            · rw [b_sh1 (by omega) (by omega), decide_eq_true e]
              by_cases e2 : i = a
              · rw [decide_eq_true e2, decide_eq_true (by omega)]; rfl
              · rw [decide_eq_false e2, decide_eq_false (by omega)]; rfl
            · rw [decide_eq_false e, decide_eq_false (by omega)]; rfl
          · rw [b_sh1 (by omega) (by omega), decide_eq_false (by omega)]
          · rw [b_sh1 (by omega) (by omega), decide_eq_false (by omega)]
      · have hcl : (if r1 = -1 then (if r0 = -1 then ((cTokens_is 97 S).bind fun q55 => (if q55 = true then cReader_readTypeName_J66 2 S else cReader_readTypeName_J66 1 S)) else cReader_readTypeName_J70 q rm r1 r0 S) else cReader_readTypeName_J70 q rm r1 r0 S) = cReader_readTypeName_J70 q rm r1 r0 S := by
          rw [if_neg g0]
          split <;> rfl
        rw [hcl, if_pos (q0.2 g0).1]
        unfold cReader_readTypeName_J70 m_readItem_J62
        rw [if_neg g0, z1, Option.bind_some, if_neg (q0.2 g0).2]
        obtain ⟨t, ht, rfl⟩ := s0.resolve_left g0
        refine key _ 0 _ (fun i hi => ?_) (fun i hi => ?_) ?_ ?_
        · rw [b_sh1 (by omega) hi]
          by_cases e : i < 12
          · rw [decide_eq_true e, Bool.true_and]
          · rw [decide_eq_false e, decide_eq_false (by omega), Bool.false_and]
        · rw [b_0]
          by_cases e : i < 4
          · rw [b_sh1 (by omega) (by omega), decide_eq_false (show ¬ 12 + i = t by omega), Bool.and_false]
          · rw [decide_eq_false e, Bool.false_and]
        · rw [b_sh1 (by omega) (by omega), decide_eq_false (by omega)]
        · rw [b_sh1 (by omega) (by omega), decide_eq_false (by omega)]
    · rw [rtn_n hE hD.dc h.tc hs' q rm]
      have hbd := (rf_lv h (k := 1) (by decide)).2
      unfold itm m_readItem
      rw [own hE h.fm, Option.bind_some, in_n h hs', Option.bind_some]
      dsimp only
      rw [if_neg Bool.false_ne_true, Option.bind_some]
      exact Ou.f (hbd.mb (MB.rf.I _ (yR_D hm (by
            rcases cc_21 rm with e | e <;> rw [e]
            · exact Or.inr (Or.inr ⟨Or.inl rfl, by omega, by omega⟩)
            · exact Or.inr (Or.inr ⟨Or.inr rfl, by omega, by omega⟩)))))
  · rw [rtn_n hE h.dc h.tc (by rw [h.is]; decide) q rm]
    exact Ou.fb (rf_li h) (itm_b hE hm hs rm)
end SET
