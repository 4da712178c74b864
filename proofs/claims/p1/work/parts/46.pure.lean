section AL
variable {S S' : CS} {M M' : MS} {o : Nat → Int64} {m β nt nc nb nr : Nat}
theorem al_eq (hB : BkR S M β) (hP : PoR S M (pcl β) β nt nc nb nr) (hL : LaR S M) (p q : Int32) : (cG_areLabelled p q S = some false ∧ m_cannotAsk p q M = some true) ∨
    (cG_areLabelled p q S = some true ∧ m_cannotAsk p q M = some false ∧ ∃ i j s t c, i < 6 ∧ j < 10 ∧ s < nt ∧ t < nt ∧ c < nc ∧ p = nI i ∧ q = nI j ∧ cG_typeOfProcess p S = some (nI s) ∧ m_processType p M = some (nI s) ∧ cG_typeOfObject q S = some (nI t) ∧ m_typeAt q M = some (nI t) ∧ cG_classOfObject q S = some (nI c) ∧ m_classAt q M = some (nI c)) := by
  have hl := hP.lim
  obtain ⟨r1, x1, x2, x3⟩ := tp_eq hB hP hL p
  obtain ⟨r2, y1, y2, y3⟩ := to_eq hB hP hL q
  obtain ⟨r3, z1, z2, z3⟩ := co_eq hB hP hL q
  have nn : ∀ j, j < 12 → ¬ nI j = -1 := fun j hj z => nI_pos (n := j) (by omega) (by rw [z]; decide)
  unfold cG_areLabelled m_cannotAsk
  rw [x1, Option.bind_some, y1, Option.bind_some, z1, Option.bind_some, pr_m, Option.bind_some, ob_m, Option.bind_some]
  rcases x2 with ⟨u1, u2⟩ | ⟨u1, u2⟩
  · rw [u1, if_pos rfl, u2, Option.bind_some]
    rcases y2 with ⟨v1, v2⟩ | ⟨v1, v2⟩
    · rw [v1, if_pos rfl, v2, Option.bind_some]
      rcases x3 with rfl | ⟨s, hs, rfl⟩
      · left
        exact ⟨by rw [if_pos rfl], by rw [if_pos (by decide)]⟩
      · rw [if_neg (nn s (by omega)), if_neg (nI_pos (by omega))]
        rcases y3 with rfl | ⟨t, ht, rfl⟩
        · left
          exact ⟨by rw [if_pos rfl], by rw [if_pos (by decide)]⟩
        · rw [if_neg (nn t (by omega)), if_neg (nI_pos (by omega))]
          rcases z2 with ⟨w1, w2⟩ | ⟨w1, w2⟩
          · rw [w2, Option.bind_some]
            rcases z3 with rfl | ⟨c, hc, rfl⟩
            · left
              exact ⟨by rw [if_pos rfl], by rw [if_neg (by decide)]⟩
            · right
              obtain ⟨i, hi, rfl⟩ := isNum_t (by omega) u1
              obtain ⟨j, hj, rfl⟩ := isNum_t (by omega) v1
              exact ⟨by rw [if_neg (nn c (by omega))], by rw [if_pos (nI_pos' (by omega))], i, j, s, t, c, hi, hj, hs, ht, hc, rfl, rfl, rfl, rfl, rfl, rfl, rfl, rfl⟩
          · rw [v1] at w1; cases w1
    · left
      subst v2
      rw [v1]
      refine ⟨?_, ?_⟩
      · by_cases e : r1 = -1
        · rw [if_pos e]
        · rw [if_neg e, if_pos rfl]
      · rw [if_neg (by simp)]
  · left
    subst u2
    rw [u1]
    exact ⟨by rw [if_pos rfl], by rw [if_neg (by simp)]⟩
theorem un_10 (h : Rl S M m) (hm : m + 2 ≤ 1024) {a1 a2 : Int32} (a3 a4 : Int32) (c1 : cG_areLabelled a1 a2 S = some false) (c2 : m_cannotAsk a1 a2 M = some true) : Nx m (st_10 a1 a2 a3 a4 (S, M, o)) := by
  have hr : ∀ v, Rl S (pI M 0 0 v) (m + 2) := h.th (by omega) (by omega)
  have g1 : gI (pI M 0 0 (bI true)) 0 0 = 1 := gI_same _ _ _ _
  unfold st_10 w_ask cG_ask m_ask
  simp only [c1, c2, Option.bind_some, Bool.false_eq_true, if_false, if_true, m_ask_J15, bd, g1, show ¬ (1 : Nat) = 0 by decide, show ¬ (1 : Nat) = 2 by decide, show ¬ (1 : Int32) = 0 by decide, m_thrown]
  exact wpo_some.mpr (hr _)
theorem un_11 (h : Rl S M m) (hm : m + 2 ≤ 1024) {a1 a2 : Int32} (a3 a4 : Int32) (c1 : cG_areLabelled a1 a2 S = some false) (c2 : m_cannotAsk a1 a2 M = some true) : Nx m (st_11 a1 a2 a3 a4 (S, M, o)) := by
  have hr : ∀ v, Rl S (pI M 0 0 v) (m + 2) := h.th (by omega) (by omega)
  have g1 : gI (pI M 0 0 1) 0 0 = 1 := gI_same _ _ _ _
  unfold st_11 w_run cG_run m_run
  simp only [c1, c2, Option.bind_some, Bool.false_eq_true, if_false, if_true, m_give, bd, g1, show ¬ (1 : Nat) = 0 by decide, show ¬ (1 : Nat) = 2 by decide, show ¬ (1 : Int32) = 0 by decide, m_thrown]
  exact wpo_some.mpr (hr _)
theorem un_12 (h : Rl S M m) (hm : m + 2 ≤ 1024) {a1 a2 : Int32} (a3 a4 : Int32) (c1 : cG_areLabelled a1 a2 S = some false) (c2 : m_cannotAsk a1 a2 M = some true) : Nx m (st_12 a1 a2 a3 a4 (S, M, o)) := by
  have hr : ∀ v, Rl S (pI M 0 0 v) (m + 2) := h.th (by omega) (by omega)
  have g1 : gI (pI M 0 0 1) 0 0 = 1 := gI_same _ _ _ _
  unfold st_12 w_make cG_make m_make
  simp only [c1, c2, Option.bind_some, Bool.false_eq_true, if_false, if_true, cG_make_J16, m_make_J16, m_give, bd, g1, show ¬ (1 : Nat) = 0 by decide, show ¬ (1 : Nat) = 2 by decide, show ¬ (1 : Int32) = 0 by decide, m_thrown]
  exact wpo_some.mpr (hr _)
end AL
/-! the start -/
theorem kd25 : ∀ i, i < 8 → kd (254 + i) = 25 := by decide +kernel
theorem BkR0 : BkR C0 M0 0 := ⟨by omega, by decide +kernel, by decide +kernel, by decide +kernel⟩
theorem PoR0 : PoR C0 M0 (pcl 0) 0 0 0 0 0 := ⟨⟨by omega, by omega, by omega, by omega⟩, ⟨by decide +kernel, by decide +kernel⟩, fun j hj => absurd hj (Nat.not_lt_zero _), ⟨by decide +kernel, by decide +kernel⟩, fun j hj => absurd hj (Nat.not_lt_zero _), ⟨by decide +kernel, by decide +kernel⟩, fun j hj => absurd hj (Nat.not_lt_zero _), ⟨by decide +kernel, by decide +kernel⟩, fun j hj => absurd hj (Nat.not_lt_zero _), fun i j hi => absurd hi (Nat.not_lt_zero _)⟩
theorem LaR0 : LaR C0 M0 := ⟨fun _ _ => Or.inl ⟨rfl, rfl⟩, fun _ _ => Or.inl ⟨rfl, rfl⟩, fun _ _ => Or.inl ⟨rfl, rfl⟩⟩
theorem Rl0 : Rl C0 M0 0 := by
  refine ⟨by omega, ⟨0, by omega, by decide +kernel, by decide +kernel, fun j hj => absurd hj (Nat.not_lt_zero _)⟩, ⟨by decide +kernel, by decide +kernel⟩, ⟨0, by omega, by decide +kernel, by decide +kernel⟩, LaR0, ⟨⟨0, by omega, by decide +kernel, by decide +kernel, fun j hj => absurd hj (Nat.not_lt_zero _), fun i j hi => absurd hi (Nat.not_lt_zero _)⟩, ⟨0, by omega, by decide +kernel, by decide +kernel⟩, by decide +kernel, by decide +kernel⟩, ⟨0, by omega, by decide +kernel, by decide +kernel, fun i j hi hj => ?_⟩, 0, 0, 0, 0, 0, BkR0, PoR0⟩
  show i0 (254 + i) j = (if 30 = 0 ∧ 5 * i + j = 10 then (-1 : Int32) else 0)
  unfold i0
  rw [kd25 i hi]
  show (0 : Int32) = (if (30 : Nat) = 0 ∧ 5 * i + j = 10 then (-1 : Int32) else 0)
  rw [if_neg (fun z => absurd z.1 (by decide))]
theorem un0 (p q : Int32) : cG_areLabelled p q C0 = some false ∧ m_cannotAsk p q M0 = some true := by
  rcases al_eq BkR0 PoR0 LaR0 p q with h | ⟨-, -, i, j, s, t, c, -, -, hs, -⟩
  · exact h
  · exact absurd hs (Nat.not_lt_zero _)
theorem ld0 (a1 a2 a3 a4 : Int32) : ∃ Z2, st_1 a1 a2 a3 a4 Z0 = some Z2 := by
  have h : (st_1 0 0 0 0 Z0).isSome = true := by decide +kernel
  exact Option.isSome_iff_exists.mp h
theorem good1 : Good 1 Z0 := by
  intro op a1 a2 a3 a4
  have g : ∀ {x : Option ST}, Nx 0 x → ∃ Z2, x = some Z2 ∧ Good 0 Z2 := fun ⟨Z2, h, _⟩ => ⟨Z2, h, trivial⟩
  have hu := un0 a1 a2
  unfold stp
  by_cases c0 : op &&& 15 = 0
  · rw [if_pos c0]; exact g (S_0 Rl0 (by omega) a1 a2 a3 a4)
  rw [if_neg c0]
  by_cases c1 : op &&& 15 = 1
  · rw [if_pos c1]
    obtain ⟨Z2, h⟩ := ld0 a1 a2 a3 a4
    exact ⟨Z2, h, trivial⟩
  rw [if_neg c1]
  by_cases c2 : op &&& 15 = 2
  · rw [if_pos c2]; exact g (S_2 Rl0 (by omega) a1 a2 a3 a4)
  rw [if_neg c2]
  by_cases c3 : op &&& 15 = 3
  · rw [if_pos c3]; exact g (S_3 Rl0 (by omega) a1 a2 a3 a4)
  rw [if_neg c3]
  by_cases c4 : op &&& 15 = 4
  · rw [if_pos c4]; exact g (S_4 Rl0 (by omega) a1 a2 a3 a4)
  rw [if_neg c4]
  by_cases c5 : op &&& 15 = 5
  · rw [if_pos c5]; exact g (S_5 Rl0 (by omega) a1 a2 a3 a4)
  rw [if_neg c5]
  by_cases c6 : op &&& 15 = 6
  · rw [if_pos c6]; exact g (S_6 Rl0 (by omega) a1 a2 a3 a4)
  rw [if_neg c6]
  by_cases c7 : op &&& 15 = 7
  · rw [if_pos c7]; exact g (S_7 Rl0 (by omega) a1 a2 a3 a4)
  rw [if_neg c7]
  by_cases c8 : op &&& 15 = 8
  · rw [if_pos c8]; exact g (S_8 Rl0 (by omega) a1 a2 a3 a4)
  rw [if_neg c8]
  by_cases c9 : op &&& 15 = 9
  · rw [if_pos c9]; exact g (S_9 Rl0 (by omega) a1 a2 a3 a4)
  rw [if_neg c9]
  by_cases c10 : op &&& 15 = 10
  · rw [if_pos c10]; exact g (un_10 Rl0 (by omega) a3 a4 hu.1 hu.2)
  rw [if_neg c10]
  by_cases c11 : op &&& 15 = 11
  · rw [if_pos c11]; exact g (un_11 Rl0 (by omega) a3 a4 hu.1 hu.2)
  rw [if_neg c11]
  by_cases c12 : op &&& 15 = 12
  · rw [if_pos c12]; exact g (un_12 Rl0 (by omega) a3 a4 hu.1 hu.2)
  rw [if_neg c12]
  by_cases c13 : op &&& 15 = 13
  · rw [if_pos c13]; exact g (S_13 Rl0 (by omega) a1 a2 a3 a4)
  rw [if_neg c13]
  by_cases c14 : op &&& 15 = 14
  · rw [if_pos c14]; exact g (S_14 Rl0 (by omega) a1 a2 a3 a4)
  rw [if_neg c14]
  exact ⟨Z0, rfl, trivial⟩
