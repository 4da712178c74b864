section KP3
variable {E : EnvR} {S S' : CS} {M M' : MS} {P pl : Nat → Nat}
/-- the reference's two findings about the rules r and r' -/
def Fa (E : EnvR) (S : CS) (r r' : Nat) : Prop := r' < r ∧ gR S (Kr E r) 0 = 9 ∧ gR S (Kr E r') 0 = 9 ∧ ¬ gI S (Kr E r') 11 = gI S (Kr E r) 11 ∧ ¬ (gI S (Kr E r') 9 &&& gI S (Kr E r) 9 = 0) ∧ shT S (Kr E r') (Kr E r)
def Fb (E : EnvR) (S : CS) (r r' : Nat) : Prop := gR S (Kr E r) 0 = 8 ∧ gR S (Kr E r') 0 = 5 ∧ shP S (Kr E r') (Kr E r) ∧ shT S (Kr E r') (Kr E r)
def yZ (k j : Nat) : Prop := ¬ (k = 0 ∧ (j = 3 ∨ j = 7 ∨ j = 8))
theorem Rdy.fr {M1 : MS} (h : Rdy E P pl S M) (hd : 7 ≤ eD E) (hc : eqC (fun k j => ¬ (k = 2 ∧ j = 2)) S S') (h2 : gI S' 2 2 = 0) (hm : eqC yZ M M1) (h7 : gI M1 0 7 = 0) : Rdy E P pl S' M1 := by
  have mI : ∀ k j, k ≠ 0 → gI M1 k j = gI M k j := fun k j g => (hm k j (fun z => g z.1)).1
  have sI : ∀ k j, ¬ (k = 2 ∧ j = 2) → gI S' k j = gI S k j := fun k j g => (hc k j g).1
  refine ⟨h.fc.tr (hc.mono (fun k j g z => g (Or.inl ⟨z.1, by omega, by omega⟩))), h.fm.tr (hm.mono (fun k j g z => g (Or.inl ⟨z.1, by omega⟩))), (hc 2 1 (by omega)).2.2.1.trans h.ptr, h7, h.lm, ?_, fun j hj => ?_, ?_, fun j hj => ?_, ?_, fun j hj => ?_, ?_, fun j hj => ?_, fun j hj => ?_, fun j hj => ?_, h.po, h2, (sI 2 3 (by omega)).trans h.f3⟩
  · exact ⟨(sI _ _ (by omega)).trans h.t.1, (mI _ _ (by omega)).trans h.t.2⟩
  · rw [(hc _ j (by omega)).2.1, (hm 3 _ (fun z => by omega)).2.1]; exact h.tn j hj
  · exact ⟨(sI _ _ (by omega)).trans h.c.1, (mI _ _ (by omega)).trans h.c.2⟩
  · rw [(hc _ j (by omega)).2.1, (hm 5 _ (fun z => by omega)).2.1]; exact h.cn j hj
  · exact ⟨(sI _ _ (by omega)).trans h.b.1, (mI _ _ (by omega)).trans h.b.2⟩
  · rw [(hc _ j (by omega)).2.2.2, (hm 10 _ (fun z => by omega)).2.2.2]; exact h.bv j hj
  · exact ⟨(sI _ _ (by omega)).trans h.r.1, (mI _ _ (by omega)).trans h.r.2⟩
  · exact (h.ru j hj).fr (fun a i g => hc a i (by omega)) (fun a g1 g2 => ⟨mI _ _ (by omega), (hm a _ (fun z => by omega)).2.2.2⟩) (fun c hc' => mI _ _ (by omega))
  · rw [sI _ _ (by omega)]; exact h.c16 j hj
  · rw [sI _ _ (by omega)]; exact h.pl j hj
theorem mt_f (h : Rdy E P pl S M) {r r' : Nat} (hr : r < P 4) (hr' : r' < P 4) (hb : eB E ≤ 1) : ∃ b, m_meets (nI (24 * eB E + r)) (nI (24 * eB E + r')) false M = some b ∧ (b = true ↔ ¬ (gI S (Kr E r') 9 &&& gI S (Kr E r) 9 = 0) ∧ shT S (Kr E r') (Kr E r)) := by
  have l4 := h.lm.2.2.2
  obtain ⟨b, b1, b2⟩ := mts (by omega) (by omega) (h.ru r hr) (h.ru r' hr') false
  refine ⟨b, b1, b2.trans ?_⟩
  obtain ⟨v, v1, v2⟩ := h.c16 r hr
  obtain ⟨v', v1', v2'⟩ := h.c16 r' hr'
  refine and_congr ?_ shT_cm
  show _ ↔ ¬ (gI S (eD E + 21 + 4 * r') 9 &&& gI S (eD E + 21 + 4 * r) 9 = 0)
  rw [v2, v2', cl_and v1']
  exact ⟨fun ⟨c, c1, c2, c3, _⟩ => ⟨c, c1, c3, c2⟩, fun ⟨c, c1, c2, c3⟩ => ⟨c, c1, c3, c2, fun z => absurd z Bool.false_ne_true⟩⟩
theorem mt_t (h : Rdy E P pl S M) {r r' : Nat} (hr : r < P 4) (hr' : r' < P 4) (hb : eB E ≤ 1) : ∃ b, m_meets (nI (24 * eB E + r)) (nI (24 * eB E + r')) true M = some b ∧ (b = true ↔ shP S (Kr E r') (Kr E r) ∧ shT S (Kr E r') (Kr E r)) := by
  have l4 := h.lm.2.2.2
  obtain ⟨b, b1, b2⟩ := mts (by omega) (by omega) (h.ru r hr) (h.ru r' hr') true
  refine ⟨b, b1, b2.trans ?_⟩
  refine and_congr ?_ shT_cm
  have cm : ∀ x y : Int32, x &&& y = y &&& x := fun x y => b_ext (fun i _ => by rw [b_and, b_and, Bool.and_comm])
  constructor
  · rintro ⟨c, c1, c2, c3, c4⟩
    exact ⟨c, c1, by rw [cm]; exact c4 rfl⟩
  · rintro ⟨c, c1, c2⟩
    obtain ⟨v, -, p2, -, p4⟩ := (h.ru r hr).perm c c1
    obtain ⟨v', -, q2, -, q4⟩ := (h.ru r' hr').perm c c1
    have z0 : ∀ x : Int32, x &&& 0 = 0 := fun x => b_ext (fun i _ => by rw [b_and, b_0, Bool.and_false])
    refine ⟨c, c1, ?_, ?_, fun _ => by rw [cm]; exact c2⟩
    · apply Classical.byContradiction
      intro hz
      apply c2
      have := p4 (by simpa using hz)
      show gI S (Kr E r' + 3) c &&& gI S (eD E + 21 + 4 * r + 3) c = 0
      rw [p2, this]
      exact z0 _
    · apply Classical.byContradiction
      intro hz
      apply c2
      have := q4 (by simpa using hz)
      show gI S (eD E + 21 + 4 * r' + 3) c &&& gI S (Kr E r + 3) c = 0
      rw [q2, this, cm]
      exact z0 _
theorem l113 (hE : Ew E) (h : Rdy E P pl S M) {r : Nat} (hr : r < P 4) (kO : Int32 → MS → Option MS) (v1 : Int32) : ∀ e c, c + e = P 4 → ∀ f, e < f → ∀ M1 : MS, eqC yZ M M1 → ∃ M2, m_lookOver_L113 kO v1 (nI (24 * eB E + P 4)) (nI (24 * eB E + r)) f (nI (24 * eB E + c)) M1 = kO (nI (24 * eB E + (r + 1))) M2 ∧ eqC yZ M M2 ∧ ((¬ gI M1 0 7 = 0 ∧ M2 = M1) ∨ (gI M1 0 7 = 0 ∧ (((∀ r', c ≤ r' → r' < P 4 → ¬ Fa E S r r' ∧ ¬ Fb E S r r') ∧ M2 = M1) ∨ ∃ r', c ≤ r' ∧ r' < P 4 ∧ ((Fa E S r r' ∧ M2 = mF M1 5) ∨ (Fb E S r r' ∧ M2 = mF M1 6))))) := by
  have hb := hE.2.1
  have l4 := h.lm.2.2.2
  intro e
  induction e with
  | zero =>
    intro c hc f hf M1 hM
    obtain ⟨f, rfl⟩ := Nat.exists_eq_add_of_lt hf
    refine ⟨M1, ?_, hM, ?_⟩
    · rw [Nat.zero_add, m_lookOver_L113, if_pos (nI_le (by omega) (by omega))]
      simp only [bd]
      rw [nI_1]
      rfl
    · by_cases h7 : gI M1 0 7 = 0
      · exact Or.inr ⟨h7, Or.inl ⟨fun r' h1 h2 => by omega, rfl⟩⟩
      · exact Or.inl ⟨h7, rfl⟩
  | succ e ih =>
    intro c hc f hf M1 hM
    obtain ⟨f, rfl⟩ := Nat.exists_eq_add_of_lt hf
    have hin : inbd (nI (24 * eB E + r)) 48 = true := inb_nI (by omega) (by omega)
    have htx : txN (nI (24 * eB E + r)) = 24 * eB E + r := tx_nI (by omega)
    have hin' : inbd (nI (24 * eB E + c)) 48 = true := inb_nI (by omega) (by omega)
    have htx' : txN (nI (24 * eB E + c)) = 24 * eB E + c := tx_nI (by omega)
    have hRr := h.ru r hr
    have hRc := h.ru c (by omega)
    have mfz : ∀ (T : MS) k, eqC yZ M T → eqC yZ M (mF T k) := fun T k hT => (hT.I _ (fun z => z ⟨rfl, Or.inr (Or.inr rfl)⟩)).I _ (fun z => z ⟨rfl, Or.inr (Or.inl rfl)⟩)
    have gM : ∀ (T : MS) k j, eqC yZ M T → k ≠ 0 → gI T k j = gI M k j := fun T k j hT hk => (hT k j (fun z => hk z.1)).1
    have meet : ∀ (T : MS) fl, eqC yZ M T → m_meets (nI (24 * eB E + r)) (nI (24 * eB E + c)) fl T = m_meets (nI (24 * eB E + r)) (nI (24 * eB E + c)) fl M := by
      intro T fl hT
      have hRr' : RuR S T (eD E + 21 + 4 * r) (24 * eB E + r) (P 0) (P 3) := hRr.fr (fun a i g => ⟨rfl, rfl, rfl, rfl⟩) (fun a g1 g2 => ⟨gM T _ _ hT (by omega), (hT a _ (fun z => by omega)).2.2.2⟩) (fun c hc' => gM T _ _ hT (by omega))
      have hRc' : RuR S T (eD E + 21 + 4 * c) (24 * eB E + c) (P 0) (P 3) := hRc.fr (fun a i g => ⟨rfl, rfl, rfl, rfl⟩) (fun a g1 g2 => ⟨gM T _ _ hT (by omega), (hT a _ (fun z => by omega)).2.2.2⟩) (fun c hc' => gM T _ _ hT (by omega))
      obtain ⟨b, b1, b2⟩ := mts (by omega) (by omega) hRr' hRc' fl
      obtain ⟨q, q1, q2⟩ := mts (by omega) (by omega) hRr hRc fl
      rw [b1, q1]
      congr 1
      rw [Bool.eq_iff_iff, b2, q2]
    -- the second half
    have j178 : ∀ T : MS, eqC yZ M T → ∃ T2, m_lookOver_J178 kO (m_lookOver_L113 kO v1 (nI (24 * eB E + P 4)) (nI (24 * eB E + r)) (e + 1 + f)) v1 (nI (24 * eB E + P 4)) (nI (24 * eB E + r)) (nI (24 * eB E + c)) T = m_lookOver_L113 kO v1 (nI (24 * eB E + P 4)) (nI (24 * eB E + r)) (e + 1 + f) (nI (24 * eB E + (c + 1))) T2 ∧ eqC yZ M T2 ∧ ((Fb E S r c ∧ m_fail 6 T = some T2) ∨ (¬ Fb E S r c ∧ T2 = T)) := by
      intro T hT
      unfold m_lookOver_J178
      rw [if_pos hin, if_pos hin', htx, htx', gM T 11 _ hT (by omega), gM T 11 _ hT (by omega), meet T true hT]
      simp only [bd]
      rw [nI_1]
      by_cases g3 : gI M 11 (24 * eB E + r) = 3
      · rw [if_pos g3]
        by_cases g0 : gI M 11 (24 * eB E + c) = 0
        · rw [if_pos g0]
          obtain ⟨b, b1, b2⟩ := mt_t h hr (show c < P 4 by omega) hb
          rw [b1, Option.bind_some]
          have k8 : gR S (Kr E r) 0 = 8 := (kd_m hRr (w := 3) (by omega)).mp g3
          have k5 : gR S (Kr E c) 0 = 5 := (kd_m hRc (w := 0) (by omega)).mp g0
          cases b
          · rw [if_neg Bool.false_ne_true]
            exact ⟨T, rfl, hT, Or.inr ⟨fun z => absurd (b2.mpr z.2.2) Bool.false_ne_true, rfl⟩⟩
          · rw [if_pos rfl]
            by_cases h7 : gI T 0 7 = 0
            · rw [fail_0 h7, Option.bind_some]
              exact ⟨_, rfl, mfz T 6 hT, Or.inl ⟨⟨k8, k5, b2.mp rfl⟩, rfl⟩⟩
            · rw [fail_1 h7, Option.bind_some]
              exact ⟨_, rfl, hT, Or.inl ⟨⟨k8, k5, b2.mp rfl⟩, rfl⟩⟩
        · rw [if_neg g0]
          exact ⟨T, rfl, hT, Or.inr ⟨fun z => g0 ((kd_m hRc (w := 0) (by omega)).mpr z.2.1), rfl⟩⟩
      · rw [if_neg g3]
        exact ⟨T, rfl, hT, Or.inr ⟨fun z => g3 ((kd_m hRr (w := 3) (by omega)).mpr z.1), rfl⟩⟩
    -- the first half
    have first : ∃ T, m_lookOver_L113 kO v1 (nI (24 * eB E + P 4)) (nI (24 * eB E + r)) (e + 1 + f + 1) (nI (24 * eB E + c)) M1 = m_lookOver_J178 kO (m_lookOver_L113 kO v1 (nI (24 * eB E + P 4)) (nI (24 * eB E + r)) (e + 1 + f)) v1 (nI (24 * eB E + P 4)) (nI (24 * eB E + r)) (nI (24 * eB E + c)) T ∧ eqC yZ M T ∧ ((Fa E S r c ∧ m_fail 5 M1 = some T) ∨ (¬ Fa E S r c ∧ T = M1)) := by
      rw [m_lookOver_L113, if_neg (nI_ge (by omega) (by omega)), if_pos hin, if_pos hin', if_pos hin, if_pos hin', htx, htx', gM M1 11 _ hM (by omega), gM M1 11 _ hM (by omega), gM M1 17 _ hM (by omega), gM M1 17 _ hM (by omega), meet M1 false hM]
      by_cases g4 : gI M 11 (24 * eB E + r) = 4
      · rw [if_pos g4]
        have k9 : gR S (Kr E r) 0 = 9 := (kd_m hRr (w := 4) (by omega)).mp g4
        by_cases g4' : gI M 11 (24 * eB E + c) = 4
        · rw [if_pos g4']
          have k9' : gR S (Kr E c) 0 = 9 := (kd_m hRc (w := 4) (by omega)).mp g4'
          by_cases grc : r ≤ c
          · rw [if_pos (nI_le (by omega) (by omega))]
            exact ⟨M1, rfl, hM, Or.inr ⟨fun z => by have := z.1; omega, rfl⟩⟩
          · rw [if_neg (nI_ge (by omega) (by omega))]
            obtain ⟨t, t0, t1, t2⟩ := hRr.to g4
            obtain ⟨t', t0', t1', t2'⟩ := hRc.to g4'
            have teq : gI M 17 (24 * eB E + r) = gI M 17 (24 * eB E + c) ↔ gI S (Kr E c) 11 = gI S (Kr E r) 11 := by
              show _ ↔ gI S (eD E + 21 + 4 * c) 11 = gI S (eD E + 21 + 4 * r) 11
              rw [t2, t2', t1, t1']
              exact ⟨Eq.symm, Eq.symm⟩
            by_cases gt : gI M 17 (24 * eB E + r) = gI M 17 (24 * eB E + c)
            · rw [if_pos gt]
              exact ⟨M1, rfl, hM, Or.inr ⟨fun z => z.2.2.2.1 (teq.mp gt), rfl⟩⟩
            · rw [if_neg gt]
              obtain ⟨b, b1, b2⟩ := mt_f h hr (show c < P 4 by omega) hb
              rw [b1, Option.bind_some]
              cases b
              · rw [if_neg Bool.false_ne_true]
                exact ⟨M1, rfl, hM, Or.inr ⟨fun z => absurd (b2.mpr z.2.2.2.2) Bool.false_ne_true, rfl⟩⟩
              · rw [if_pos rfl]
                have hfa : Fa E S r c := ⟨by omega, k9, k9', fun z => gt (teq.mpr z), b2.mp rfl⟩
                by_cases h7 : gI M1 0 7 = 0
                · rw [fail_0 h7, Option.bind_some]
                  exact ⟨_, rfl, mfz M1 5 hM, Or.inl ⟨hfa, rfl⟩⟩
                · rw [fail_1 h7, Option.bind_some]
                  exact ⟨_, rfl, hM, Or.inl ⟨hfa, rfl⟩⟩
        · rw [if_neg g4']
          exact ⟨M1, rfl, hM, Or.inr ⟨fun z => g4' ((kd_m hRc (w := 4) (by omega)).mpr z.2.2.1), rfl⟩⟩
      · rw [if_neg g4]
        exact ⟨M1, rfl, hM, Or.inr ⟨fun z => g4 ((kd_m hRr (w := 4) (by omega)).mpr z.2.1), rfl⟩⟩
    obtain ⟨T, a1, a2, a3⟩ := first
    obtain ⟨T2, c1, c2, c3⟩ := j178 T a2
    obtain ⟨M2, d1, d2, d3⟩ := ih (c + 1) (by omega) (e + 1 + f) (by omega) T2 c2
    refine ⟨M2, by rw [a1, c1, d1], d2, ?_⟩
    have excl : Fa E S r c → ¬ Fb E S r c := fun x y => by have := x.2.1; have := y.1; omega
    by_cases h7 : gI M1 0 7 = 0
    · right
      refine ⟨h7, ?_⟩
      rcases a3 with ⟨fa, a3⟩ | ⟨nfa, rfl⟩
      · right
        rw [fail_0 h7] at a3
        have hT : T = mF M1 5 := (Option.some.inj a3).symm
        rcases c3 with ⟨fb, -⟩ | ⟨-, rfl⟩
        · exact absurd fb (excl fa)
        · refine ⟨c, Nat.le_refl _, by omega, Or.inl ⟨fa, ?_⟩⟩
          have hb5 : ¬ gI T2 0 7 = 0 := by rw [hT]; exact mF_b (by decide)
          rcases d3 with ⟨-, d3⟩ | ⟨z, -⟩
          · rw [d3, hT]
          · exact absurd z hb5
      · rcases c3 with ⟨fb, c3⟩ | ⟨nfb, rfl⟩
        · right
          rw [fail_0 h7] at c3
          have hT : T2 = mF T 6 := (Option.some.inj c3).symm
          refine ⟨c, Nat.le_refl _, by omega, Or.inr ⟨fb, ?_⟩⟩
          have hb5 : ¬ gI T2 0 7 = 0 := by rw [hT]; exact mF_b (by decide)
          rcases d3 with ⟨-, d3⟩ | ⟨z, -⟩
          · rw [d3, hT]
          · exact absurd z hb5
        · rcases d3 with ⟨z, -⟩ | ⟨-, d3⟩
          · exact absurd h7 z
          · rcases d3 with ⟨d3, rfl⟩ | ⟨r', r1, r2, r3⟩
            · left
              refine ⟨fun r' h1 h2 => ?_, rfl⟩
              by_cases er : r' = c
              · subst er; exact ⟨nfa, nfb⟩
              · exact d3 r' (by omega) h2
            · exact Or.inr ⟨r', by omega, r2, r3⟩
    · left
      have hT : T = M1 := by
        rcases a3 with ⟨-, a3⟩ | ⟨-, rfl⟩
        · rw [fail_1 h7] at a3
          exact (Option.some.inj a3).symm
        · rfl
      have hT2 : T2 = T := by
        rcases c3 with ⟨-, c3⟩ | ⟨-, rfl⟩
        · rw [fail_1 (by rw [hT]; exact h7)] at c3
          exact (Option.some.inj c3).symm
        · rfl
      rcases d3 with ⟨-, d3⟩ | ⟨z, -⟩
      · exact ⟨h7, by rw [d3, hT2, hT]⟩
      · rw [hT2, hT] at z
        exact absurd z h7
end KP3
