section LP3
variable {E : EnvR} {P : Nat → Nat} {S S' S0 : CS} {M M' M'' : MS} {i k r d b : Nat} {X Y : CS → MS → Prop} {Q2 : CS → MS → Prop}
abbrev cLO (f n : Nat) (x : Option (CS × Bool)) : Option (CS × Bool) := x.bind fun q48 => (if q48.2 = true then (bd (nI n + 1) fun a67 => cReader_read_L33 f a67 q48.1) else ((cTokens_place q48.1).bind fun q59 => (bd (pI q48.1 2 3 q59) fun S62 => some (S62, false))))
theorem AX.cn (h : AX E P X S M i) (hc : eqC (fun k j => ¬ (k = 2 ∧ (j = 4 ∨ j = 5))) S S') (hX : X S M → Y S' M) : AX E P Y S' M i := by
  rcases h with ⟨h, hx⟩ | h
  · have hd := h.dr.hd.1
    exact Or.inl ⟨⟨h.tc.w (hc.mono (fun k j g => by omega)), h.fc.tr (hc.mono (fun k j g z => g (Or.inl ⟨z.1, by omega, by omega⟩))), h.fm, h.dr.fr (hc.mono (fun k j g z => by unfold xD at g; omega)) (eqC.rf _ _), h.tm, h.ne, h.ok, h.cu⟩, hX hx⟩
  · have hd := h.dc.hd
    exact Or.inr ⟨h.tc.w (hc.mono (fun k j g => by omega)), h.fc.tr (hc.mono (fun k j g z => g (Or.inl ⟨z.1, by omega, by omega⟩))), h.fm, h.dc.fr (hc.mono (fun k j g z => by unfold xD at g; omega)), h.is, h.b1, h.pl⟩
theorem rd_eob (hE : Ew E) {m c : Nat} {pl : Nat → Nat} {be : Bool} (hc : c < 3) (h : Lv E P S M i) (hx : Xc E (nI c) be m pl S M) (h125 : (tkE E i).1 = 125) {f n g : Nat} (hg : 0 < g) (hKa : ∀ S' M' i', i < i' → AX E P (Xc E (-1) false m pl) S' M' i' → LO E (cReader_read_L33 f (nI (n + 1)) S') (m_load_L41 g M')) (hKc : ∀ S' M' i', i < i' → AX E P (Xc E (nI c) true m pl) S' M' i' → LO E (cReader_read_L33 f (nI (n + 1)) S') ((m_readSide_L6 (nI c) false 600 M').bind fun q => (KS true (nI c) q).bind (m_load_L41 g))) : LO E (cLO f n (cReader_readEndOfBlock S)) ((m_readSide_J69 M).bind fun q => (KS be (nI c) q).bind (m_load_L41 g)) := by
  have hb := hE.2.1
  have hd := hE.1
  have hXT : ∀ c be, Sta xT yTk (Xc E c be m pl) := fun c be => (Xc.n hd).tk
  obtain ⟨S1, M1, fl, e1, e2, e3⟩ := skX (hXT _ _) (Or.inl ⟨h, hx⟩) (v := 125) (c := 125) rfl (by omega) (by omega) (by omega) (by omega)
  rcases e3 with ⟨-, -, -, e3⟩ | ⟨rfl, -, h1, hS1⟩
  · exact absurd h125 e3
  · have hex : cReader_expect 125 S = some (S1, true) := by
      unfold cReader_expect
      rw [e1, Option.bind_some]
      rfl
    unfold cReader_readEndOfBlock m_readSide_J69
    rw [hex, mu_y e2, Option.bind_some, Option.bind_some, Option.bind_some]
    dsimp only
    have hbe : gB S1 2 5 = be := by
      rw [hS1, gB_pI]
      exact hx.2.1 (ne_m1 (by omega))
    -- the block ends
    have fin : LO E (cLO f n (cReader_readEndOfBlock_J43 S1)) ((m_readIf_J94 M1).bind (m_load_L41 g)) := by
      unfold cReader_readEndOfBlock_J43 m_readIf_J94
      simp only [bd]
      have h2 : AX E P (Xc E (-1) false m pl) (pI S1 2 4 (-1)) M1 (i + 1) := h1.cn ((eqC.rf _ _).I _ (fun z => z ⟨rfl, Or.inl rfl⟩)) (fun g => ⟨gI_same _ _ _ _, fun z => absurd rfl z, fun j hj => by rw [gI_other _ _ (by omega)]; exact g.2.2.1 j hj, by rw [gI_other _ _ (by omega)]; exact g.2.2.2.1, by rw [gI_other _ _ (by omega)]; exact g.2.2.2.2⟩)
      exact (Ou.e1 (exX (hXT _ _) h2 (c := 59) rfl (by omega) (by omega) (by omega) (by omega))).lo (hbL hg) (fun S' M' h' => hKa S' M' (i + 1 + 1) (by omega) h')
    rw [hbe, if_pos rfl]
    cases be
    · rw [if_neg Bool.false_ne_true]
      rcases skw h1 (w := 11) (by omega) (by omega) with ⟨k1, k2⟩ | ⟨k1, k2, k3, k4, k5⟩
      · rw [k1, Option.bind_some]
        dsimp only
        rw [if_neg Bool.false_ne_true]
        have hks : KS false (nI c) M1 = m_readIf_J94 M1 := by
          unfold KS
          rw [if_neg Bool.false_ne_true]
          by_cases g7 : gI M1 0 7 = 0
          · rw [if_pos g7]
            by_cases g5 : gI M1 0 5 = 1
            · have hl : Lv E P S1 M1 (i + 1) := by
                rcases h1 with h1 | h1
                · exact h1.1
                · exact absurd g7 h1.nb
              rw [if_pos g5, if_neg (show ¬ gL M1 0 11 = 1361093 from k2 hl g5)]
            · rw [if_neg g5]
          · rw [if_neg g7]
        rw [hks]
        exact fin
      · rw [k1, Option.bind_some]
        dsimp only
        rw [if_pos rfl]
        simp only [bd]
        unfold KS
        rw [if_neg Bool.false_ne_true, if_pos k2.ok, if_pos k4, if_pos (show gL M1 0 11 = 1361093 from k5)]
        obtain ⟨M2, z1, z2, z3⟩ := adX (hXT _ _) k2 (h1.get k2) (by rw [k3]; decide)
        rw [z1, Option.bind_some]
        unfold m_readSide
        rw [Option.bind_assoc, Option.bind_assoc]
        have h2 : AX E P (Xc E (nI c) true m pl) (pB (pI S1 3 4 (nI (i + 1 + 1))) 2 5 true) M2 (i + 1 + 1) := z3.cn ((eqC.rf _ _).B _ (fun z => z ⟨rfl, Or.inr rfl⟩)) (fun g => ⟨g.1, fun _ => gB_same _ _ _ _, g.2.2⟩)
        refine (Ou.c1 (exX (hXT _ _) h2 (c := 123) rfl (by omega) (by omega) (by omega) (by omega))).lo ?_ (fun S' M' h' => ?_)
        · intro M3 hb3 hf3
          refine ⟨M3, ?_, MB.rf⟩
          rw [rs6 (by omega) hb3, Option.bind_some, rf94 hb3, Option.bind_some, l41b hg hb3]
        · have := hKc S' M' (i + 1 + 1 + 1) (by omega) h'
          unfold KS at this
          simp only [if_true] at this
          exact this
    · rw [if_pos rfl]
      unfold KS
      rw [if_pos rfl]
      exact fin
theorem j16c {v : Int64} (hk : m_ruleKind v = some (-1)) (hc : v = 53482707 ∨ v = 370829775426821 ∨ v = 5346309 ∨ v = 586700 ∨ v = 582) : m_readStatement_J16 v M = m_readStatement_J94 v (-1) true M := by
  unfold m_readStatement_J16 m_readStatement_J66 m_readStatement_J71 m_readStatement_J83
  rw [hk, Option.bind_some, if_neg (by decide)]
  rcases hc with rfl | rfl | rfl | rfl | rfl
  · rw [if_pos rfl, if_pos rfl, if_pos (by decide)]
  · rw [if_neg (by decide), if_pos rfl, if_pos rfl, if_pos (by decide)]
  · rw [if_neg (by decide), if_neg (by decide), if_pos rfl, if_pos rfl, if_pos (by decide)]
  · rw [if_neg (by decide), if_neg (by decide), if_neg (by decide), if_pos rfl, if_pos rfl, if_pos (by decide)]
  · rw [if_neg (by decide), if_neg (by decide), if_neg (by decide), if_neg (by decide), if_pos rfl, if_pos rfl, if_pos (by decide)]
theorem j16n {v : Int64} (hk : m_ruleKind v = some (-1)) (h1 : ¬ v = 53482707) (h2 : ¬ v = 370829775426821) (h3 : ¬ v = 5346309) (h4 : ¬ v = 586700) (h5 : ¬ v = 582) : m_readStatement_J16 v M = m_fail 1 M := by
  unfold m_readStatement_J16 m_readStatement_J71 m_readStatement_J83 m_readStatement_J94
  rw [hk, Option.bind_some, if_neg (by decide), if_neg h1, if_neg h2, if_neg h3, if_neg h4, if_neg h5, if_neg Bool.false_ne_true]
  cases m_fail 1 M with
  | none => rw [Option.bind_none]
  | some q => rw [Option.bind_some, if_pos (by decide), if_neg (by decide), if_neg Bool.false_ne_true]
theorem j16r {v : Int64} {w : Nat} (hw : w < 5) (hk : m_ruleKind v = some (nI w)) : m_readStatement_J16 v M = (m_readRule (nI w) (-1) true M).bind fun q => some q := by
  unfold m_readStatement_J16 m_readStatement_J66 m_readStatement_J71 m_readStatement_J83 m_readStatement_J94
  rw [hk, Option.bind_some, if_pos (nI_pos' (by omega)), if_pos rfl, if_neg (nI_pos (by omega))]
  cases m_readRule (nI w) (-1) true M with
  | none => rw [Option.bind_none, Option.bind_none]
  | some q => rw [Option.bind_some, Option.bind_some, if_pos (nI_pos' (by omega))]
/-- the class's statement, by its first word, outside of a block -/
theorem cst {wd : Nat} (hw : cTokens_word S = some wd) (h15 : wd < 15) (h4 : gI S 2 4 = -1) : cReader_readStatement S = if 5 ≤ wd ∧ wd ≤ 9 then (cReader_readRule wd S).bind (fun q => some (q.1, q.2)) else if wd = 1 then (cReader_readClass S).bind (fun q => some (q.1, q.2)) else if wd = 2 then (cReader_readAttribute S).bind (fun q => some (q.1, q.2)) else if wd = 3 then (cReader_readType S).bind (fun q => some (q.1, q.2)) else if wd = 4 then (cReader_readBool S).bind (fun q => some (q.1, q.2)) else if wd = 10 then (cReader_readIf S).bind (fun q => some (q.1, q.2)) else some (pI S 2 2 1, false) := by
  unfold cReader_readStatement cReader_readStatement_J29 cReader_refuse
  rw [hw, Option.bind_some, if_pos h15, h4, if_pos rfl, if_pos (inb_nI h15 (by omega)), swv wd h15]
  have : wd = 0 ∨ wd = 1 ∨ wd = 2 ∨ wd = 3 ∨ wd = 4 ∨ wd = 5 ∨ wd = 6 ∨ wd = 7 ∨ wd = 8 ∨ wd = 9 ∨ wd = 10 ∨ wd = 11 ∨ wd = 12 ∨ wd = 13 ∨ wd = 14 := by omega
  rcases this with rfl | rfl | rfl | rfl | rfl | rfl | rfl | rfl | rfl | rfl | rfl | rfl | rfl | rfl | rfl <;> rfl
end LP3
