theorem mC_0 : ∀ v, 0 < v → v < 15 → (0 : Int64) ≠ mC v := by
  have : ∀ v, v < 15 → 0 < v → (0 : Int64) ≠ mC v := by decide +kernel
  exact fun v h1 h2 => this v h2 h1
section LP4
variable {E : EnvR} {P : Nat → Nat} {S S' S0 : CS} {M M' M'' : MS} {i k r d b : Nat} {X Y : CS → MS → Prop} {Q2 : CS → MS → Prop}
theorem rk_c {y : Int64} {wd : Nat} (h15 : wd < 15) (h : (wd = 0 ∧ ∀ v, 0 < v → v < 15 → y ≠ mC v) ∨ (0 < wd ∧ y = mC wd)) : m_ruleKind y = some (if 5 ≤ wd ∧ wd ≤ 9 then nI (wd - 5) else -1) := by
  rcases h with ⟨rfl, h⟩ | ⟨h, rfl⟩
  · rw [rk_0 h]; rfl
  · exact rk_1 wd h15 h
/-- one statement outside of a block -/
theorem st_A (hE : Ew E) {pl : Nat → Nat} (hp : Pc P) (hpo : Po E (P 4) pl i) (h : Lv E P S M i) (hx : Xc E (-1) false (P 4) pl S M) (h32 : (tkE E i).1 ≠ 32) {f n g : Nat} (hg : 0 < g) (hKa : ∀ (P' : Nat → Nat) pl' S' M' i', i < i' → Pc P' → Po E (P' 4) pl' i' → AX E P' (Xc E (-1) false (P' 4) pl') S' M' i' → LO E (cReader_read_L33 f (nI (n + 1)) S') (m_load_L41 g M')) (hKb : ∀ S' M' i' c, i < i' → c < P 3 → Po E (P 4) pl i' → AX E P (Xc E (nI c) false (P 4) pl) S' M' i' → LO E (cReader_read_L33 f (nI (n + 1)) S') ((m_readSide_L6 (nI c) true 600 M').bind fun q => (KS false (nI c) q).bind (m_load_L41 g))) : LO E (cLO f n (cReader_readStatement S)) ((m_readStatement M).bind (m_load_L41 g)) := by
  have hb := hE.2.1
  have hd := hE.1
  have hXn : Sta (xN (eD E)) (yN (eB E)) (Xc E (-1) false (P 4) pl) := Xc.n hd
  have bad1 : LO E (cLO f n (some (pI S 2 2 1, false))) ((m_fail 1 M).bind (m_load_L41 g)) := by
    obtain ⟨z1, z2⟩ := rf_lv h (k := 1) (by decide)
    rw [z1]
    exact (Ou.f (Q := fun _ _ => False) z2).lo (hbL hg) (fun _ _ z => z.elim)
  have dcl : ∀ {x : Option (CS × Bool)} {y : Option MS} {j : Nat}, i ≤ j → Ou E (Qs E P (Xc E (-1) false (P 4) pl) j) x y → LO E (cLO f n (x.bind fun q => some (q.1, q.2))) ((y.bind fun q => some q).bind (m_load_L41 g)) := by
    intro x y j hj hO
    refine (Ou.e1 hO).lo (hbL hg) (fun S' M' h' => ?_)
    obtain ⟨P', i', p1, p2, p3, p4⟩ := h'
    rw [← p3] at p4
    exact hKa P' pl S' M' i' (by omega) p2 (by rw [p3]; exact hpo.go p4.tc (by omega)) p4
  unfold m_readStatement
  by_cases hs : (tkE E i).1 = 97
  · obtain ⟨y0, y1, y2⟩ := h.cu.2.2.2.1 hs
    obtain ⟨wd, w1, w2, w3⟩ := wo_m y2
    have hword : cTokens_word S = some wd := by
      rw [wd_E h.tc, w1, Option.bind_some, if_pos w2]
    have w4 : (wd = 0 ∧ ∀ v, 0 < v → v < 15 → (tkE E i).2.2.2.2 ≠ mC v) ∨ (0 < wd ∧ (tkE E i).2.2.2.2 = mC wd) := by
      rcases w3 with ⟨a, -, b⟩ | ⟨a, -, b⟩
      · exact Or.inl ⟨a, b⟩
      · exact Or.inr ⟨a, b⟩
    have hk := rk_c w2 w4
    rw [cst hword w2 hx.1, if_pos y0, y1]
    obtain ⟨M1, z1, z2, z3⟩ := adX hXn.tk h hx (by rw [hs]; decide)
    by_cases h59 : 5 ≤ wd ∧ wd ≤ 9
    · rw [if_pos h59] at hk ⊢
      rw [j16r (w := wd - 5) (by omega) hk]
      obtain ⟨w, rfl⟩ : ∃ w, wd = w + 5 := ⟨wd - 5, by omega⟩
      rw [show w + 5 - 5 = w by omega]
      refine (Ou.e1 (rd_rule hE h hx hs hp (w := w) (by omega) (Xc.u hd) rfl (Or.inl ⟨hx.1, rfl⟩))).lo (hbL hg) (fun S' M' h' => ?_)
      obtain ⟨P', i', p1, p2, p3, p4, p5⟩ := h'
      refine hKa P' (up pl (P 4) (tkE E i).2.1) S' M' i' p1 p2 (by rw [p3]; exact hpo.rl p5.tc p1) ?_
      rw [p3]
      exact p5.im (fun _ _ g => Xc.a (M := M) g.1 g.2)
    · rw [if_neg h59] at hk ⊢
      by_cases h1 : wd = 1
      · rw [if_pos h1]
        have hy : (tkE E i).2.2.2.2 = 53482707 := by rcases w4 with ⟨a, -⟩ | ⟨-, a⟩; omega; rw [a, h1]; rfl
        rw [j16c hk (Or.inl hy)]
        unfold m_readStatement_J94
        rw [if_neg (by decide), if_pos rfl, z1, Option.bind_some, if_pos hy]
        exact dcl (j := i + 1) (by omega) (rd_class hE hXn z2 z3 hp)
      · rw [if_neg h1]
        by_cases h2 : wd = 2
        · rw [if_pos h2]
          have hy : (tkE E i).2.2.2.2 = 370829775426821 := by rcases w4 with ⟨a, -⟩ | ⟨-, a⟩; omega; rw [a, h2]; rfl
          rw [j16c hk (Or.inr (Or.inl hy))]
          unfold m_readStatement_J94
          rw [if_neg (by decide), if_pos rfl, z1, Option.bind_some, hy, if_neg (by decide), if_pos rfl]
          exact dcl (j := i + 1) (by omega) (rd_attr hE hXn z2 z3 hp)
        · rw [if_neg h2]
          by_cases h3 : wd = 3
          · rw [if_pos h3]
            have hy : (tkE E i).2.2.2.2 = 5346309 := by rcases w4 with ⟨a, -⟩ | ⟨-, a⟩; omega; rw [a, h3]; rfl
            rw [j16c hk (Or.inr (Or.inr (Or.inl hy)))]
            unfold m_readStatement_J94
            rw [if_neg (by decide), if_pos rfl, z1, Option.bind_some, hy, if_neg (by decide), if_neg (by decide), if_pos rfl]
            exact dcl (j := i + 1) (by omega) (rd_type hE hXn z2 z3 hp)
          · rw [if_neg h3]
            by_cases h4 : wd = 4
            · rw [if_pos h4]
              have hy : (tkE E i).2.2.2.2 = 586700 := by rcases w4 with ⟨a, -⟩ | ⟨-, a⟩; omega; rw [a, h4]; rfl
              rw [j16c hk (Or.inr (Or.inr (Or.inr (Or.inl hy))))]
              unfold m_readStatement_J94
              rw [if_neg (by decide), if_pos rfl, z1, Option.bind_some, hy, if_neg (by decide), if_neg (by decide), if_neg (by decide), if_pos rfl]
              exact dcl (j := i + 1) (by omega) (rd_bool hE hXn z2 z3 hp)
            · rw [if_neg h4]
              by_cases h10 : wd = 10
              · rw [if_pos h10]
                have hy : (tkE E i).2.2.2.2 = 582 := by rcases w4 with ⟨a, -⟩ | ⟨-, a⟩; omega; rw [a, h10]; rfl
                rw [j16c hk (Or.inr (Or.inr (Or.inr (Or.inr hy))))]
                unfold m_readStatement_J94
                rw [if_neg (by decide), if_pos rfl, z1, Option.bind_some, hy, if_neg (by decide), if_neg (by decide), if_neg (by decide), if_neg (by decide), if_pos rfl]
                have := rd_if hE z2 z3 (f := f) (n := n) hg (fun S' M' c hc h' => hKb S' M' (i + 1 + 2) c (by omega) hc (hpo.go h'.tc (by omega)) h')
                have e1 : (cReader_readIf S).bind (fun q => some (q.1, q.2)) = cReader_readIf S := by cases cReader_readIf S <;> rfl
                have e2 : (m_readIf M1).bind (fun q => some q) = m_readIf M1 := by cases m_readIf M1 <;> rfl
                rw [e1, e2]
                exact this
              · rw [if_neg h10]
                have hne : ∀ v, v < 15 → 0 < v → v ≠ wd → ∀ c, mC v = c → ¬ (tkE E i).2.2.2.2 = c := by
                  intro v v15 v0 vn c hc z
                  rcases w4 with ⟨a, b⟩ | ⟨a, b⟩
                  · exact b v v0 v15 (z.trans hc.symm)
                  · have : mC v = mC wd := hc.trans (z.symm.trans b)
                    have inj : ∀ v, v < 15 → ∀ u, u < 15 → 0 < v → 0 < u → mC v = mC u → v = u := by decide +kernel
                    exact vn (inj v v15 wd w2 v0 a this)
                rw [j16n hk (hne 1 (by omega) (by omega) (by omega) _ rfl) (hne 2 (by omega) (by omega) (by omega) _ rfl) (hne 3 (by omega) (by omega) (by omega) _ rfl) (hne 4 (by omega) (by omega) (by omega) _ rfl) (hne 10 (by omega) (by omega) (by omega) _ rfl)]
                exact bad1
  · rw [cst (wd_0 h.tc hs) (by omega) hx.1, if_neg (by omega), if_neg (by omega), if_neg (by omega), if_neg (by omega), if_neg (by omega), if_neg (by omega), if_neg (sort_ne h hs), j16n (rk_0 mC_0) (by decide) (by decide) (by decide) (by decide) (by decide)]
    exact bad1
/-- one statement inside of a block -/
theorem st_B (hE : Ew E) {pl : Nat → Nat} {c : Nat} {be : Bool} (hp : Pc P) (hc : c < P 3) (hpo : Po E (P 4) pl i) (h : Lv E P S M i) (hx : Xc E (nI c) be (P 4) pl S M) {f n g g1 : Nat} (hg : 0 < g) (hg1 : 0 < g1) (hKa : ∀ S' M' i', i < i' → Po E (P 4) pl i' → AX E P (Xc E (-1) false (P 4) pl) S' M' i' → LO E (cReader_read_L33 f (nI (n + 1)) S') (m_load_L41 g M')) (hKb : ∀ (P' : Nat → Nat) pl' S' M' i' be' g2, i < i' → Pc P' → c < P' 3 → (g2 = g1 ∨ g2 = 600) → Po E (P' 4) pl' i' → AX E P' (Xc E (nI c) be' (P' 4) pl') S' M' i' → LO E (cReader_read_L33 f (nI (n + 1)) S') ((m_readSide_L6 (nI c) (!be') g2 M').bind fun q => (KS be' (nI c) q).bind (m_load_L41 g))) : LO E (cLO f n (cReader_readStatement S)) ((m_readSide_L6 (nI c) (!be) (g1 + 1) M).bind fun q => (KS be (nI c) q).bind (m_load_L41 g)) := by
  have hb := hE.2.1
  have hd := hE.1
  have l3 : P 3 ≤ 3 := h.dr.lm.1 3 (by omega)
  have hn1 : ¬ gI S 2 4 = -1 := by rw [hx.1]; exact ne_m1 (by omega)
  have cstB : ∀ wd, cTokens_word S = some wd → wd < 15 → cReader_readStatement S = if 5 ≤ wd ∧ wd ≤ 7 then (cReader_readRule wd S).bind (fun q => some (q.1, q.2)) else (cReader_readEndOfBlock S).bind (fun q => some (q.1, q.2)) := by
    intro wd hw h15
    unfold cReader_readStatement cReader_readStatement_J29
    rw [hw, Option.bind_some, if_pos h15, if_neg hn1]
    by_cases g5 : wd = 5
    · rw [if_pos g5, if_pos (by omega)]
    · rw [if_neg g5]
      by_cases g6 : wd = 6
      · rw [if_pos g6, if_pos (by omega)]
      · rw [if_neg g6]
        by_cases g7 : wd = 7
        · rw [if_pos g7, if_pos (by omega)]
        · rw [if_neg g7, if_neg (by omega)]
  have ceq : ∀ x : Option (CS × Bool), x.bind (fun q => some (q.1, q.2)) = x := by intro x; cases x <;> rfl
  have hbK2 : ∀ M, ¬ gI M 0 7 = 0 → FM E M → ∃ M', ((m_readSide_L6 (nI c) (!be) g1 M).bind fun q => (KS be (nI c) q).bind (m_load_L41 g)) = m_load_J62 M' ∧ MB E M M' := fun M hb _ => ⟨M, by rw [rs6 hg1 hb, Option.bind_some, KS_b hb, Option.bind_some, l41b hg hb], MB.rf⟩
  rw [m_readSide_L6, if_pos h.ok, show m_is 125 M = some (decide ((tkE E i).1 = 125)) from is_m h (c := 125) (by omega) (by omega) (by omega), Option.bind_some]
  by_cases h125 : (tkE E i).1 = 125
  · have hs : (tkE E i).1 ≠ 97 := by rw [h125]; decide
    rw [cstB 0 (wd_0 h.tc hs) (by omega), if_neg (by omega), decide_eq_true h125, if_pos rfl, ceq]
    exact rd_eob hE (by omega) h hx h125 hg (fun S' M' i' hi h' => hKa S' M' i' hi (hpo.go h'.tc (by omega)) h') (fun S' M' i' hi h' => hKb P pl S' M' i' true 600 hi hp hc (Or.inr rfl) (hpo.go h'.tc (by omega)) h')
  · rw [decide_eq_false h125, if_neg Bool.false_ne_true]
    have bad1 : LO E (cLO f n (cReader_readEndOfBlock S)) ((m_readSide_J51 (m_readSide_L6 (nI c) (!be) g1) (nI c) (!be) M).bind fun q => (KS be (nI c) q).bind (m_load_L41 g)) := by
      unfold m_readSide_J51
      obtain ⟨z1, z2⟩ := rf_lv h (k := 1) (by decide)
      rw [eob_n h.tc h125, z1, Option.bind_some]
      have := (Ou.f (Q := fun _ _ => False) z2).lo (f := f) (n := n) hbK2 (fun _ _ z => z.elim)
      rw [Option.bind_some] at this
      exact this
    by_cases hs : (tkE E i).1 = 97
    · obtain ⟨y0, y1, y2⟩ := h.cu.2.2.2.1 hs
      obtain ⟨wd, w1, w2, w3⟩ := wo_m y2
      have hword : cTokens_word S = some wd := by
        rw [wd_E h.tc, w1, Option.bind_some, if_pos w2]
      have w4 : (wd = 0 ∧ ∀ v, 0 < v → v < 15 → (tkE E i).2.2.2.2 ≠ mC v) ∨ (0 < wd ∧ (tkE E i).2.2.2.2 = mC wd) := by
        rcases w3 with ⟨a, -, b⟩ | ⟨a, -, b⟩
        · exact Or.inl ⟨a, b⟩
        · exact Or.inr ⟨a, b⟩
      have hk := rk_c w2 w4
      rw [if_pos y0, y1, hk, Option.bind_some, cstB wd hword w2]
      unfold m_readSide_J41
      by_cases h57 : 5 ≤ wd ∧ wd ≤ 7
      · rw [if_pos h57, if_pos (show 5 ≤ wd ∧ wd ≤ 9 by omega), if_neg (nI_pos (by omega)), if_pos (show nI (wd - 5) ≤ 2 from nI_le (b := 2) (by omega) (by omega))]
        obtain ⟨w, rfl⟩ : ∃ w, wd = w + 5 := ⟨wd - 5, by omega⟩
        rw [show w + 5 - 5 = w by omega, Option.bind_assoc]
        refine (Ou.c1 (rd_rule hE h hx hs hp (w := w) (by omega) (Xc.u hd) rfl (Or.inr ⟨c, hc, hx.1, rfl, by rw [hx.2.1 (ne_m1 (by omega)), Bool.not_not]⟩))).lo hbK2 (fun S' M' h' => ?_)
        obtain ⟨P', i', p1, p2, p3, p4, p5⟩ := h'
        refine hKb P' (up pl (P 4) (tkE E i).2.1) S' M' i' be g1 p1 p2 (by rw [p4 3 (by omega)]; exact hc) (Or.inl rfl) (by rw [p3]; exact hpo.rl p5.tc p1) ?_
        rw [p3]
        exact p5.im (fun _ _ g => Xc.a (M := M) g.1 g.2)
      · rw [if_neg h57, ceq]
        by_cases h59 : 5 ≤ wd ∧ wd ≤ 9
        · rw [if_pos h59, if_neg (nI_pos (by omega)), if_neg (show ¬ nI (wd - 5) ≤ 2 from nI_ge (a := 2) (by omega) (by omega))]
          exact bad1
        · rw [if_neg h59, if_pos (by decide)]
          exact bad1
    · rw [if_neg (sort_ne h hs), cstB 0 (wd_0 h.tc hs) (by omega), if_neg (by omega), ceq]
      unfold m_readSide_J41
      rw [if_pos (by decide)]
      exact bad1
theorem st_loop (hE : Ew E) : ∀ e, e ≤ 481 → ∀ i, 481 ≤ i + e → ∀ n f g, n ≤ i → e < f → e < g → ∀ (P pl : Nat → Nat) (S : CS) (M : MS), Pc P → Po E (P 4) pl i → (AX E P (Xc E (-1) false (P 4) pl) S M i → LO E (cReader_read_L33 f (nI n) S) (m_load_L41 g M)) ∧ (∀ c be g1, c < P 3 → e < g1 → AX E P (Xc E (nI c) be (P 4) pl) S M i → LO E (cReader_read_L33 f (nI n) S) ((m_readSide_L6 (nI c) (!be) g1 M).bind fun q => (KS be (nI c) q).bind (m_load_L41 g))) := by
  intro e
  induction e with
  | zero =>
    intro he i hi n f g hn hf hg P pl S M hp hpo
    refine ⟨fun h => ?_, fun c be g1 hc hg1 h => ?_⟩
    · have := h.tc.lt
      omega
    · have := h.tc.lt
      omega
  | succ e ih =>
    intro he i hi n f g hn hf hg P pl S M hp hpo
    obtain ⟨f, rfl⟩ := Nat.exists_eq_add_of_lt hf
    refine ⟨fun h => ?_, fun c be g1 hc hg1 h => ?_⟩
    · have hlt := h.tc.lt
      obtain ⟨g, rfl⟩ := Nat.exists_eq_add_of_lt hg
      rcases h with ⟨h, hx⟩ | h
      · by_cases h32 : (tkE E i).1 = 32
        · right
          refine ⟨S, M, ⟨P, i, pl, h, hp, hpo, hx.2.2⟩, ?_, ?_⟩
          · rw [cReader_read_L33, if_neg (show ¬ (480 : Int32) < nI n from nI_nlt (a := 480) (by omega) (by omega))]
            unfold cReader_isDone
            rw [if_pos hx.1, show cTokens_is 32 S = some (decide ((tkE E i).1 = 32)) from isc h.tc (c := 32) (by omega), decide_eq_true h32]
            rfl
          · rw [m_load_L41, if_pos h.ok, if_pos (h.cu.2.2.1 h32)]
        · have hdn : cReader_isDone S = some false := by
            unfold cReader_isDone
            rw [if_pos hx.1, show cTokens_is 32 S = some (decide ((tkE E i).1 = 32)) from isc h.tc (c := 32) (by omega), decide_eq_false h32]
            rfl
          have h05 : ¬ gI M 0 5 = 0 := by
            by_cases hs : (tkE E i).1 = 97
            · rw [(h.cu.2.2.2.1 hs).1]; decide
            · rw [(h.cu.2.2.2.2 h32 hs).1]; decide
          rw [dn_b (by omega) hdn, m_load_L41, if_pos h.ok, if_neg h05]
          exact st_A hE hp hpo h hx h32 (by omega) (fun P' pl' S' M' i' hi' hp' hpo' h' => (ih (by omega) i' (by omega) (n + 1) (e + 1 + f) (e + 1 + g) (by omega) (by omega) (by omega) P' pl' S' M' hp' hpo').1 h') (fun S' M' i' c hi' hc hpo' h' => (ih (by omega) i' (by omega) (n + 1) (e + 1 + f) (e + 1 + g) (by omega) (by omega) (by omega) P pl S' M' hp hpo').2 c false 600 hc (by omega) h')
      · obtain ⟨q1, q2⟩ := li_st h
        rw [dn_b (by omega) q1, q2, Option.bind_some, l41b (by omega) h.nb]
        dsimp only
        rw [if_neg Bool.false_ne_true]
        exact LO.bad (rf_li h) rfl
    · have hlt := h.tc.lt
      obtain ⟨g1, rfl⟩ := Nat.exists_eq_add_of_lt hg1
      rcases h with ⟨h, hx⟩ | h
      · have l3 : P 3 ≤ 3 := h.dr.lm.1 3 (by omega)
        have hdn : cReader_isDone S = some false := by
          unfold cReader_isDone
          rw [hx.1, if_neg (ne_m1 (by omega))]
        rw [dn_b (by omega) hdn]
        exact st_B hE hp hc hpo h hx (by omega) (by omega) (fun S' M' i' hi' hpo' h' => (ih (by omega) i' (by omega) (n + 1) (e + 1 + f) g (by omega) (by omega) (by omega) P pl S' M' hp hpo').1 h') (fun P' pl' S' M' i' be' g2 hi' hp' hc' hg2 hpo' h' => (ih (by omega) i' (by omega) (n + 1) (e + 1 + f) g (by omega) (by omega) (by omega) P' pl' S' M' hp' hpo').2 c be' g2 hc' (by omega) h')
      · obtain ⟨q1, q2⟩ := li_st h
        rw [dn_b (by omega) q1, q2, Option.bind_some, rs6 (by omega) h.nb, Option.bind_some, KS_b h.nb, Option.bind_some, l41b (by omega) h.nb]
        dsimp only
        rw [if_neg Bool.false_ne_true]
        exact LO.bad (rf_li h) rfl
end LP4
