section LD3
variable {S S' : CS} {M M' : MS} {o : Nat → Int64} {m : Nat}
theorem mW11 : ∀ k, k < 20 → 11 ≤ k → mW k = 24 := by decide
theorem yPo_D {β k j : Nat} (hβ : β ≤ 1) (h : yPo β k j) : ¬ yD (1 - β) 24 k j := by
  obtain ⟨h1, h2, h3, h4⟩ := h
  have hb : β = 0 ∨ β = 1 := by omega
  intro z
  rcases z with ⟨rfl, z1, z2⟩ | ⟨rfl, z1, z2⟩ | ⟨rfl, z1, z2⟩ | ⟨rfl, z1, z2⟩ | ⟨rfl, z1, z2⟩ | ⟨rfl, z1, z2⟩ | ⟨rfl, z1, z2⟩ | ⟨rfl, z1, z2⟩ | ⟨rfl, z1, z2⟩ | ⟨z0, z0', z1, z2⟩ | ⟨rfl, z1, z2⟩ | ⟨z0 | z0, z1, z2⟩
  · rw [show mW 2 = 5 from rfl] at h3 h4; omega
  · rw [show mW 3 = 12 from rfl] at h3 h4; omega
  · rw [show mW 4 = 4 from rfl] at h3 h4; omega
  · rw [show mW 5 = 4 from rfl] at h3 h4; omega
  · rw [show mW 6 = 32 from rfl] at h3 h4; omega
  · rw [show mW 7 = 3 from rfl] at h3 h4; omega
  · rw [show mW 8 = 12 from rfl] at h3 h4; omega
  · rw [show mW 9 = 4 from rfl] at h3 h4; omega
  · rw [show mW 10 = 3 from rfl] at h3 h4; omega
  · rw [mW11 k (by omega) z0] at h3 h4; omega
  · rw [show mW 20 = 96 from rfl] at h3 h4; omega
  · subst z0
    rw [show mW 21 = 48 from rfl] at h3 h4; omega
  · subst z0
    rw [show mW 22 = 48 from rfl] at h3 h4; omega
theorem pcl_o {β : Nat} (hβ : β ≤ 1) : (pcl β = 7 ∧ pcl (1 - β) = 124) ∨ (pcl β = 124 ∧ pcl (1 - β) = 7) := by
  rcases (show β = 0 ∨ β = 1 by omega) with rfl | rfl
  · exact Or.inr ⟨rfl, rfl⟩
  · exact Or.inl ⟨rfl, rfl⟩
def xL (β k j : Nat) : Prop := ¬ (k = 0 ∧ (j = 1 ∨ j = 3 ∨ j = 4)) ∧ ¬ (2 ≤ k ∧ k ≤ 6) ∧ ¬ (pcl (1 - β) ≤ k ∧ k < pcl (1 - β) + 117)
def yL (β k j : Nat) : Prop := ¬ (k = 0 ∧ (j = 0 ∨ (2 ≤ j ∧ j ≤ 12) ∨ j = 34)) ∧ ¬ yD (1 - β) 24 k j
theorem yD_hi {b k j : Nat} (h : 23 ≤ k ∨ k = 0) : ¬ yD b 24 k j := ny_0 (by omega)
/-- the labels, the cache and the notes stay as they are -/
theorem ld_fr (h : Rl S M m) {β : Nat} (hβ : β ≤ 1) {T : CS} {N : MS} (hc : eqC (xL β) S T) (hn : eqC (yL β) M N) : LaR T N ∧ CaR T N (m + 2) ∧ LoR T N (m + 2) := by
  have po := pcl_o hβ
  refine ⟨h.la.fr (hc.mono (fun k j g => ?_)) (hn.mono (fun k j g => ?_)), h.ca.fr (by omega) (hc.mono (fun k j g => ?_)) (hn.mono (fun k j g => ?_)), h.lo.fr (by omega) (hc.mono (fun k j g => ?_)) (hn.mono (fun k j g => ?_))⟩
  · unfold xLa at g; exact ⟨by omega, by omega, by omega⟩
  · unfold yLa at g; exact ⟨by omega, yD_hi (by omega)⟩
  · unfold xCa at g; exact ⟨by omega, by omega, by omega⟩
  · unfold yCa at g; exact ⟨by omega, yD_hi (by omega)⟩
  · unfold xLo at g; exact ⟨by omega, by omega, by omega⟩
  · unfold yLo at g; exact ⟨by omega, yD_hi (by omega)⟩
theorem ld_no (h : Rl S M m) (hm : m + 2 ≤ 1024) {β nt nc nb nr : Nat} (hB : BkR S M β) (hP : PoR S M (pcl β) β nt nc nb nr) {T : CS} {N : MS} (hc : eqC (xL β) S T) (hn : eqC (yL β) M N) (t01 : gI T 0 1 = 0) (n02 : gI N 0 2 = 0) (f1 : gI T 2 2 = gI N 0 9) (f2 : gI T 2 3 = gI N 0 10) (t03 : gR T 0 3 = gR S 0 3) (t21 : gR T 2 1 = gR S 2 1) (n12 : gI N 0 12 = gI M 0 12) (t04 : gI T 0 4 = gI S 0 4) (n34 : gI N 0 34 = gI M 0 34) : Rl T N (m + 2) := by
  have hβ := hB.1
  have po := pcl_o hβ
  obtain ⟨la, ca, lo⟩ := ld_fr h hβ hc hn
  obtain ⟨q, q1, q2, q3⟩ := h.sq
  refine ⟨hm, ⟨0, by omega, t01, n02, fun j hj => absurd hj (Nat.not_lt_zero _)⟩, ⟨f1, f2⟩, ⟨q, by omega, t04.trans q2, n34.trans q3⟩, la, ca, lo, β, nt, nc, nb, nr, ⟨hβ, n12.trans hB.2.1, t03.trans hB.2.2.1, t21.trans hB.2.2.2⟩, hP.fr (hc.mono (fun k j g => ?_)) (hn.mono (fun k j g => ?_))⟩
  · unfold xPo at g; exact ⟨by omega, by omega, by omega⟩
  · have g1 := g.1
    exact ⟨by omega, yPo_D hβ g⟩
theorem ld_ok (h : Rl S M m) (hm : m + 2 ≤ 1024) {β q : Nat} (hβ : β ≤ 1) (hq : q ≤ m) {E : EnvR} {P pl : Nat → Nat} {S2 : CS} {M2 : MS} (eD' : eD E = pcl (1 - β)) (eB' : eB E = 1 - β) (hR : Rdy E P pl S2 M2) (nd : ∀ r, r < P 4 → ¬ Hd E S2 r) {T : CS} {N : MS} (hc : eqC (xL β) S T) (hn : eqC (yL β) M N) (kC : eqC (fun k j => ¬ (k = 0 ∧ (j = 1 ∨ j = 3 ∨ j = 4)) ∧ ¬ (k = 2 ∧ j = 1)) S2 T) (kM : eqC (fun k _ => k ≠ 0) M2 N) (t01 : gI T 0 1 = 0) (n02 : gI N 0 2 = 0) (n9 : gI N 0 9 = 0) (n10 : gI N 0 10 = -1) (t03 : gR T 0 3 = pcl (1 - β)) (t21 : gR T 2 1 = pcl β) (n12 : gI N 0 12 = nI (1 - β)) (t04 : gI T 0 4 = nI (q + 1)) (n34 : gI N 0 34 = nI (q + 1)) : Rl T N (m + 2) := by
  have po := pcl_o hβ
  obtain ⟨la, ca, lo⟩ := ld_fr h hβ hc hn
  have cI : ∀ k j, 7 ≤ k → gI T k j = gI S2 k j ∧ gL T k j = gL S2 k j ∧ gR T k j = gR S2 k j ∧ gB T k j = gB S2 k j := fun k j hk => kC k j ⟨by omega, by omega⟩
  have mI : ∀ k j, k ≠ 0 → gI N k j = gI M2 k j ∧ gL N k j = gL M2 k j ∧ gR N k j = gR M2 k j ∧ gB N k j = gB M2 k j := fun k j hk => kM k j hk
  have d7 : 7 ≤ pcl (1 - β) := by omega
  obtain ⟨-, -, -, -, lm, t, tn, c, cn, b, bv, r, ru, c16, -, -, z2, z3⟩ := id hR
  rw [eD', eB'] at t c b r
  rw [eD', eB'] at tn cn bv ru
  rw [eD'] at c16
  refine ⟨hm, ⟨0, by omega, t01, n02, fun j hj => absurd hj (Nat.not_lt_zero _)⟩, ⟨by rw [(kC 2 2 ⟨by omega, by omega⟩).1, z2, n9], by rw [(kC 2 3 ⟨by omega, by omega⟩).1, z3, n10]⟩, ⟨q + 1, by omega, t04, n34⟩, la, ca, lo, 1 - β, P 0, P 2, P 3, P 4, ⟨by omega, n12, t03, by rw [t21, show 1 - (1 - β) = β by omega]⟩, ⟨lm, ?_, fun j hj => ?_, ?_, fun j hj => ?_, ?_, fun j hj => ?_, ?_, fun j hj => ?_, fun i j hi hj k1 k2 k3 => ?_⟩⟩
  · exact ⟨(cI _ _ (by omega)).1.trans t.1, (mI _ _ (by omega)).1.trans t.2⟩
  · rw [(cI _ _ (by omega)).2.1, (mI _ _ (by omega)).2.1]; exact tn j hj
  · exact ⟨(cI _ _ (by omega)).1.trans c.1, (mI _ _ (by omega)).1.trans c.2⟩
  · rw [(cI _ _ (by omega)).2.1, (mI _ _ (by omega)).2.1]; exact cn j hj
  · exact ⟨(cI _ _ (by omega)).1.trans b.1, (mI _ _ (by omega)).1.trans b.2⟩
  · rw [(cI _ _ (by omega)).2.2.2, (mI _ _ (by omega)).2.2.2]; exact bv j hj
  · exact ⟨(cI _ _ (by omega)).1.trans r.1, (mI _ _ (by omega)).1.trans r.2⟩
  · exact (ru j hj).fr (fun a i g => cI a i (by omega)) (fun a g1 g2 => ⟨(mI a _ (by omega)).1, (mI a _ (by omega)).2.2.2⟩) (fun c hc' => (mI 20 _ (by omega)).1)
  · -- no two moves are disputed
    have hK : ∀ r, Kr E r = pcl (1 - β) + 21 + 4 * r := fun r => by unfold Kr; rw [eD']
    rw [(mI 11 _ (by omega)).1] at k1 k2
    rw [(mI 17 _ (by omega)).1, (mI 17 _ (by omega)).1]
    obtain ⟨c, s, t, c1, s1, t1, p1, p2, p3, p4⟩ := k3
    rw [(cI _ _ (by omega)).1] at p1 p2
    rw [tgs_fr (fun j => ⟨(cI _ _ (by omega)).1, (cI _ _ (by omega)).2.2.2⟩)] at p3 p4
    have core : ∀ a e, a < e → a < P 4 → e < P 4 → gI M2 11 (24 * (1 - β) + a) = nI 4 → gI M2 11 (24 * (1 - β) + e) = nI 4 → bt (gI S2 (pcl (1 - β) + 21 + 4 * a) 9) c = true → bt (gI S2 (pcl (1 - β) + 21 + 4 * e) 9) c = true → bt (tgs S2 (pcl (1 - β) + 21 + 4 * a) s) t = true → bt (tgs S2 (pcl (1 - β) + 21 + 4 * e) s) t = true → gI M2 17 (24 * (1 - β) + a) = gI M2 17 (24 * (1 - β) + e) := by
      intro a e hae ha he m1 m2 x1 x2 x3 x4
      obtain ⟨u, u0, u1, u2⟩ := (ru a ha).to m1
      obtain ⟨v, v0, v1, v2⟩ := (ru e he).to m2
      rw [u2, v2]
      apply Classical.byContradiction
      intro hne
      have an0 : ∀ (x y : Int32) (i : Nat), bt x i = true → bt y i = true → ¬ (x &&& y = 0) := by
        intro x y i b1 b2 z
        have : bt (x &&& y) i = false := by rw [z, b_0]
        rw [b_and, b1, b2] at this
        exact absurd this (by decide)
      refine nd e he ⟨?_, a, hae, ?_, ?_, ?_, s, s1, ?_⟩
      · rw [hK]; exact (kd_m (ru e he) (w := 4) (by omega)).mp m2
      · rw [hK]; exact (kd_m (ru a ha) (w := 4) (by omega)).mp m1
      · rw [hK, hK, u1, v1]; exact hne
      · rw [hK, hK]; exact an0 _ _ c x1 x2
      · rw [hK, hK]; exact an0 _ _ t x3 x4
    rcases Nat.lt_or_ge i j with g | g
    · exact core i j g hi hj k1 k2 p1 p2 p3 p4
    · rcases Nat.lt_or_ge j i with g' | g'
      · exact (core j i g' hj hi k2 k1 p2 p1 p4 p3).symm
      · rw [show i = j by omega]
theorem S_1 (h : Rl S M m) (hm : m + 2 ≤ 1024) (a1 a2 a3 a4 : Int32) : Nx m (st_1 a1 a2 a3 a4 (S, M, o)) := by
  obtain ⟨β, nt, nc, nb, nr, hB, hP⟩ := h.po
  have hβ := hB.1
  obtain ⟨E, hE, eD', eB', eS', eM', x, y, hx, hy, hLO⟩ := ld_beg h.tx hB
  obtain ⟨S2, M2, fl, e1, e2, e3⟩ := ld_all hE hLO
  have c1 : cReader_read (gI S 0 1) S = some (S2, fl) := hx.trans e1
  have c2 : m_load M = m_load_J73 M2 := hy.trans e2
  have po := pcl_o hβ
  have hd := hE.1
  have hb1 := hE.2.1
  unfold st_1
  show Nx m ((w_load (S, M, o)).bind fun q183 => ((m_load q183.1.2.1).bind fun q189 => ((m_thrown q189.1).bind fun q195 => (if q195 = q183.2 then (if q183.2 = 0 then (if (q183.1.2.2 0) = q189.2.toInt64 then some (q183.1.1, q189.1, q183.1.2.2) else none) else some (q183.1.1, q189.1, q183.1.2.2)) else none))))
  unfold w_load cG_load
  simp only [bd]
  rw [c1, Option.bind_some]
  dsimp only
  -- what both leave alone
  have base : ∀ (T : CS) (N : MS), FC E T → FM E N → eqC (fun k j => ¬ (k = 2 ∧ 2 ≤ j ∧ j ≤ 5) ∧ ¬ (k = 3 ∧ (j = 3 ∨ j = 4)) ∧ ¬ (4 ≤ k ∧ k ≤ 6) ∧ ¬ (pcl (1 - β) ≤ k ∧ k < pcl (1 - β) + 117)) S T ∧ eqC (fun k j => ¬ (k = 0 ∧ ((3 ≤ j ∧ j ≤ 8) ∨ j = 11)) ∧ ¬ yD (1 - β) 24 k j) M N := by
    intro T N f1 f2
    have f1' : eqC (xF (eD E)) (eS E) T := f1
    have f2' : eqC (yF (eB E)) (eM E) N := f2
    rw [eD', eS'] at f1'
    rw [eB', eM'] at f2'
    refine ⟨f1'.mono (fun k j g z => ?_), f2'.mono (fun k j g z => ?_)⟩
    · rcases z with z | z | z | z
      · exact g.1 z
      · exact g.2.1 z
      · exact g.2.2.1 z
      · exact g.2.2.2 z
    · rcases z with z | z
      · exact g.1 z
      · exact g.2 z
  rcases e3 with ⟨rfl, P, pl, hR, nd⟩ | ⟨rfl, f1, f2, f3, f4, f5⟩
  · -- the text is taken
    rw [if_pos rfl]
    obtain ⟨hc, hmm⟩ := base S2 M2 hR.fc hR.fm
    have g03 : gR (pI S2 0 1 0) 0 3 = pcl β := by
      show gR S2 0 3 = pcl β
      rw [(hc 0 3 ⟨by omega, by omega, by omega, by omega⟩).2.2.1]
      exact hB.2.2.1
    have g21 : gR (pI S2 0 1 0) 2 1 = pcl (1 - β) := hR.ptr.trans eD'
    obtain ⟨q, q1, q2, q3⟩ := h.sq
    have s04 : gI S2 0 4 = nI q := by
      rw [(hc 0 4 ⟨by omega, by omega, by omega, by omega⟩).1]; exact q2
    have m34 : gI M2 0 34 = nI q := by
      rw [(hmm 0 34 ⟨by omega, ny_0 (Or.inl (by omega))⟩).1]; exact q3
    unfold cReader_exchange
    simp only [bd]
    rw [g03, if_pos (pcl_7 β), g21, if_pos (pcl_7 _), Option.bind_some]
    dsimp only
    rw [if_pos (pcl_7 _), Option.bind_some]
    dsimp only
    rw [if_pos rfl, Option.bind_some]
    dsimp only
    rw [c2]
    unfold m_load_J73 m_load_J102 m_give m_thrown
    simp only [bd]
    have n7 : gI (pI (pI M2 0 2 0) 0 9 (gI (pI M2 0 2 0) 0 7)) 0 7 = 0 := by
      rw [gI_other _ _ (by omega), gI_other _ _ (by omega)]
      exact hR.ok
    have n7' : gI (pI (pI (pI M2 0 2 0) 0 9 (gI (pI M2 0 2 0) 0 7)) 0 10 (-1)) 0 7 = 0 := by
      rw [gI_other _ _ (by omega)]
      exact n7
    have n7'' : gI (pI M2 0 2 0) 0 7 = 0 := by
      rw [gI_other _ _ (by omega)]
      exact hR.ok
    have hown : m_own (pI (pI (pI M2 0 2 0) 0 9 (gI (pI M2 0 2 0) 0 7)) 0 10 (-1)) = some (nI (1 - β)) := by
      have := own hE hR.fm
      rw [eB'] at this
      unfold m_own at this ⊢
      rw [gI_other _ _ (by omega), gI_other _ _ (by omega), gI_other _ _ (by omega)]
      exact this
    rw [if_pos n7, if_pos n7', hown, Option.bind_some, n7'']
    have i34 : gI (pI (pI (pI (pI M2 0 2 0) 0 9 0) 0 10 (-1)) 0 12 (nI (1 - β))) 0 34 = nI q := by
      rw [gI_other _ _ (by omega), gI_other _ _ (by omega), gI_other _ _ (by omega), gI_other _ _ (by omega)]
      exact m34
    have i04 : gI (pR (pR (pI S2 0 1 0) 2 1 (pcl β)) 0 3 (pcl (1 - β))) 0 4 = nI q := by
      show gI (pI S2 0 1 0) 0 4 = nI q
      rw [gI_other _ _ (by omega)]
      exact s04
    rw [i34, i04, nI_1, gI_same, gI_same, Option.bind_some, Option.bind_some]
    dsimp only
    rw [gI_same, Option.bind_some, if_pos rfl, if_pos trivial, if_pos (by show va_up o 0 (nI (q + 1)).toInt64 0 = _; unfold va_up; simp)]
    refine wpo_some.mpr ?_
    show Rl (pI (pR (pR (pI S2 0 1 0) 2 1 (pcl β)) 0 3 (pcl (1 - β))) 0 4 (nI (q + 1))) (pI (pI (pI (pI (pI (pI M2 0 2 0) 0 9 0) 0 10 (-1)) 0 12 (nI (1 - β))) 0 34 (nI (q + 1))) 0 0 0) (m + 2)
    refine ld_ok h hm hβ q1 eD' eB' hR nd ?_ ?_ ?_ ?_ ?_ ?_ ?_ ?_ ?_ ?_ ?_ ?_ ?_
    · exact ((((hc.mono (fun k j g => ⟨by have := g.2.1; omega, by have := g.2.1; omega, by have := g.2.1; omega, g.2.2⟩)).I _ (fun z => z.1 ⟨rfl, Or.inl rfl⟩)).R _ (fun z => z.2.1 ⟨by omega, by omega⟩)).R _ (fun z => z.1 ⟨rfl, Or.inr (Or.inl rfl)⟩)).I _ (fun z => z.1 ⟨rfl, Or.inr (Or.inr rfl)⟩)
    · exact ((((((hmm.mono (fun k j g => ⟨by have := g.1; omega, g.2⟩)).I _ (fun z => z.1 (by omega))).I _ (fun z => z.1 (by omega))).I _ (fun z => z.1 (by omega))).I _ (fun z => z.1 (by omega))).I _ (fun z => z.1 (by omega))).I _ (fun z => z.1 (by omega))
    · exact ((((eqC.rf _ _).I _ (by omega)).R _ (by omega)).R _ (by omega)).I _ (by omega)
    · exact ((((((eqC.rf _ _).I _ (by omega)).I _ (by omega)).I _ (by omega)).I _ (by omega)).I _ (by omega)).I _ (by omega)
    · rw [gI_other _ _ (by omega)]
      show gI (pI S2 0 1 0) 0 1 = 0
      rw [gI_same]
    · (repeat (first | rw [gI_same] | rw [gI_other _ _ (by omega)] | rw [gI_pL] | rw [gI_pB] | rw [gI_pR]))
    · (repeat (first | rw [gI_same] | rw [gI_other _ _ (by omega)] | rw [gI_pL] | rw [gI_pB] | rw [gI_pR]))
    · (repeat (first | rw [gI_same] | rw [gI_other _ _ (by omega)] | rw [gI_pL] | rw [gI_pB] | rw [gI_pR]))
    · show gR (pR (pR (pI S2 0 1 0) 2 1 (pcl β)) 0 3 (pcl (1 - β))) 0 3 = pcl (1 - β)
      rw [gR_pR, if_pos ⟨rfl, rfl⟩]
    · show gR (pR (pR (pI S2 0 1 0) 2 1 (pcl β)) 0 3 (pcl (1 - β))) 2 1 = pcl β
      rw [gR_pR, if_neg (by omega), gR_pR, if_pos ⟨rfl, rfl⟩]
    · (repeat (first | rw [gI_same] | rw [gI_other _ _ (by omega)] | rw [gI_pL] | rw [gI_pB] | rw [gI_pR]))
    · rw [gI_same]
    · (repeat (first | rw [gI_same] | rw [gI_other _ _ (by omega)] | rw [gI_pL] | rw [gI_pB] | rw [gI_pR]))
  · rw [if_neg Bool.false_ne_true, Option.bind_some]
    dsimp only
    rw [if_neg (by decide), if_neg (by decide), Option.bind_some]
    dsimp only
    rw [c2]
    obtain ⟨hc, hmm⟩ := base S2 M2 f1 f2
    unfold m_load_J73 m_load_J102 m_give m_thrown
    simp only [bd]
    have n7 : ¬ gI (pI (pI M2 0 2 0) 0 9 (gI (pI M2 0 2 0) 0 7)) 0 7 = 0 := by
      rw [gI_other _ _ (by omega), gI_other _ _ (by omega)]
      exact f4
    have n7' : ∀ v, ¬ gI (pI (pI (pI M2 0 2 0) 0 9 (gI (pI M2 0 2 0) 0 7)) 0 10 v) 0 7 = 0 := by
      intro v
      rw [gI_other _ _ (by omega)]
      exact n7
    rw [if_neg n7, if_neg (n7' _), Option.bind_some, Option.bind_some]
    dsimp only
    rw [gI_same, Option.bind_some, if_pos rfl, if_neg (by decide)]
    refine wpo_some.mpr ?_
    have e7 : gI (pI M2 0 2 0) 0 7 = gI M2 0 7 := gI_other _ _ (by omega)
    have e8 : gI (pI (pI M2 0 2 0) 0 9 (gI M2 0 7)) 0 8 = gI M2 0 8 := by rw [gI_other _ _ (by omega), gI_other _ _ (by omega)]
    rw [e7, e8]
    show Rl (pI S2 0 1 0) (pI (pI (pI (pI M2 0 2 0) 0 9 (gI M2 0 7)) 0 10 (gI M2 0 8)) 0 0 1) (m + 2)
    refine ld_no h hm hB hP ?_ ?_ ?_ ?_ ?_ ?_ ?_ ?_ ?_ ?_ ?_
    · exact (hc.mono (fun k j g => ⟨by have := g.2.1; omega, by have := g.2.1; omega, by have := g.2.1; omega, g.2.2⟩)).I _ (fun z => z.1 ⟨rfl, Or.inl rfl⟩)
    · exact ((((hmm.mono (fun k j g => ⟨by have := g.1; omega, g.2⟩)).I _ (fun z => z.1 (by omega))).I _ (fun z => z.1 (by omega))).I _ (fun z => z.1 (by omega))).I _ (fun z => z.1 (by omega))
    · rw [gI_same]
    · (repeat (first | rw [gI_same] | rw [gI_other _ _ (by omega)] | rw [gI_pL] | rw [gI_pB] | rw [gI_pR]))
    · rw [gI_other _ _ (by omega), f3]
      (repeat (first | rw [gI_same] | rw [gI_other _ _ (by omega)] | rw [gI_pL] | rw [gI_pB] | rw [gI_pR]))
    · rw [gI_other _ _ (by omega), f5]
      (repeat (first | rw [gI_same] | rw [gI_other _ _ (by omega)] | rw [gI_pL] | rw [gI_pB] | rw [gI_pR]))
    · exact (hc 0 3 ⟨by omega, by omega, by omega, by omega⟩).2.2.1
    · exact (hc 2 1 ⟨by omega, by omega, by omega, by omega⟩).2.2.1
    · rw [gI_other _ _ (by omega), gI_other _ _ (by omega), gI_other _ _ (by omega), gI_other _ _ (by omega)]
      exact (hmm 0 12 ⟨by omega, yD_hi (by omega)⟩).1
    · rw [gI_other _ _ (by omega)]
      exact (hc 0 4 ⟨by omega, by omega, by omega, by omega⟩).1
    · rw [gI_other _ _ (by omega), gI_other _ _ (by omega), gI_other _ _ (by omega), gI_other _ _ (by omega)]
      exact (hmm 0 34 ⟨by omega, yD_hi (by omega)⟩).1
end LD3
/-- every run of calls goes through -/
theorem good_all : ∀ n m (Z : ST), Rl Z.1 Z.2.1 m → m + 2 * n ≤ 1024 → Good n Z := by
  intro n
  induction n with
  | zero => intro m Z h hm; trivial
  | succ n ih =>
    intro m Z h hm op a1 a2 a3 a4
    obtain ⟨S, M, o⟩ := Z
    have h' : Rl S M m := h
    have g : ∀ {x : Option ST}, Nx m x → ∃ Z2, x = some Z2 ∧ Good n Z2 := fun ⟨Z2, h1, h2⟩ => ⟨Z2, h1, ih (m + 2) Z2 h2 (by omega)⟩
    have hm2 : m + 2 ≤ 1024 := by omega
    unfold stp
    by_cases c0 : op &&& 15 = 0
    · rw [if_pos c0]; exact g (S_0 h' hm2 a1 a2 a3 a4)
    rw [if_neg c0]
    by_cases c1 : op &&& 15 = 1
    · rw [if_pos c1]; exact g (S_1 h' hm2 a1 a2 a3 a4)
    rw [if_neg c1]
    by_cases c2 : op &&& 15 = 2
    · rw [if_pos c2]; exact g (S_2 h' hm2 a1 a2 a3 a4)
    rw [if_neg c2]
    by_cases c3 : op &&& 15 = 3
    · rw [if_pos c3]; exact g (S_3 h' hm2 a1 a2 a3 a4)
    rw [if_neg c3]
    by_cases c4 : op &&& 15 = 4
    · rw [if_pos c4]; exact g (S_4 h' hm2 a1 a2 a3 a4)
    rw [if_neg c4]
    by_cases c5 : op &&& 15 = 5
    · rw [if_pos c5]; exact g (S_5 h' hm2 a1 a2 a3 a4)
    rw [if_neg c5]
    by_cases c6 : op &&& 15 = 6
    · rw [if_pos c6]; exact g (S_6 h' hm2 a1 a2 a3 a4)
    rw [if_neg c6]
    by_cases c7 : op &&& 15 = 7
    · rw [if_pos c7]; exact g (S_7 h' hm2 a1 a2 a3 a4)
    rw [if_neg c7]
    by_cases c8 : op &&& 15 = 8
    · rw [if_pos c8]; exact g (S_8 h' hm2 a1 a2 a3 a4)
    rw [if_neg c8]
    by_cases c9 : op &&& 15 = 9
    · rw [if_pos c9]; exact g (S_9 h' hm2 a1 a2 a3 a4)
    rw [if_neg c9]
    by_cases c10 : op &&& 15 = 10
    · rw [if_pos c10]; exact g (S_10 h' hm2 a1 a2 a3 a4)
    rw [if_neg c10]
    by_cases c11 : op &&& 15 = 11
    · rw [if_pos c11]; exact g (S_11 h' hm2 a1 a2 a3 a4)
    rw [if_neg c11]
    by_cases c12 : op &&& 15 = 12
    · rw [if_pos c12]; exact g (S_12 h' hm2 a1 a2 a3 a4)
    rw [if_neg c12]
    by_cases c13 : op &&& 15 = 13
    · rw [if_pos c13]; exact g (S_13 h' hm2 a1 a2 a3 a4)
    rw [if_neg c13]
    by_cases c14 : op &&& 15 = 14
    · rw [if_pos c14]; exact g (S_14 h' hm2 a1 a2 a3 a4)
    rw [if_neg c14]
    exact ⟨(S, M, o), rfl, ih (m + 2) (S, M, o) (Rl.up h' (by omega) hm2) (by omega)⟩
theorem good512 : Good 512 Z0 := good_all 512 0 Z0 Rl0 (by omega)
