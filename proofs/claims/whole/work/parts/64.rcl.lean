/-! inside a rule: classes -/
def ClR (S : CS) (M : MS) (k r n : Nat) : Prop := ∃ v, v < 16 ∧ gI S k 9 = nI v ∧ gI M 16 r = nI v ∧ ∀ c, c < 4 → bt (nI v) c = true → c < n
def PeR (S : CS) (M : MS) (k r : Nat) : Prop := ∀ c, c < 4 → ∃ v, v < 256 ∧ gI S (k + 3) c = nI v ∧ gI M 20 (4 * r + c) = nI v ∧ (bt (gI S k 9) c = false → v = 0)
def xP (k a j : Nat) : Prop := ¬ (a = 3 ∧ j = 4) ∧ ¬ (a = k ∧ (j = 9 ∨ j = 11)) ∧ a ≠ k + 3
def yP (r a j : Nat) : Prop := yTk a j ∧ ¬ (a = 16 ∧ j = r) ∧ ¬ (a = 17 ∧ j = r) ∧ ¬ (a = 20 ∧ 4 * r ≤ j ∧ j < 4 * r + 4)
def xM (k a j : Nat) : Prop := ¬ (a = 3 ∧ j = 4) ∧ ¬ (a = k ∧ (j = 9 ∨ j = 11))
def yM (r a j : Nat) : Prop := yTk a j ∧ ¬ (a = 16 ∧ j = r) ∧ ¬ (a = 17 ∧ j = r)
section RCL
variable {E : EnvR} {P : Nat → Nat} {S S' S0 : CS} {M M' M'' : MS} {i k r : Nat} {X Y : CS → MS → Prop} {Q2 : CS → MS → Prop}
theorem Sta.p (h : Sta (xP k) (yP r) X) : Sta xT yTk X := h.mono (fun _ _ g => g.1) (fun _ _ g => g.1)
theorem Sta.m (h : Sta (xM k) (yM r) X) : Sta xT yTk X := h.mono (fun _ _ g => g.1) (fun _ _ g => g.1)
theorem ClR.st {n : Nat} (hk : 7 ≤ k) : Sta xT yTk (fun S M => ClR S M k r n) := by
  rintro S M S' M' ⟨v, h1, h2, h3, h4⟩ e1 e2
  exact ⟨v, h1, (e1 k 9 (fun z => by omega)).1.trans h2, (e2 16 r (fun z => by omega)).1.trans h3, h4⟩
theorem PeR.st (hk : 7 ≤ k) : Sta xT yTk (fun S M => PeR S M k r) := by
  intro S M S' M' h e1 e2 c hc
  obtain ⟨v, h1, h2, h3, h4⟩ := h c hc
  exact ⟨v, h1, (e1 (k + 3) c (fun z => by omega)).1.trans h2, (e2 20 _ (fun z => by omega)).1.trans h3, by rw [(e1 k 9 (fun z => by omega)).1]; exact h4⟩
theorem rd_cn (hE : Ew E) (hX : Sta xT yTk X) (h : AX E P X S M i) : ∃ S' r M' v, cReader_numberHere (eD E + 5) S = some (S', r) ∧ m_readClassName M = some (M', v) ∧ ((r = -1 ∧ Bd E S' M') ∨ ∃ c, c < P 2 ∧ r = nI c ∧ AX E P X S' M' (i + 1) ∧ eqC yTk M M' ∧ (gI M' 0 7 = 0 → v = (1 : Int32) <<< (nI c &&& 31))) := by
  have hb := hE.2.1
  rcases h with ⟨h, hx⟩ | h
  · by_cases hs : (tkE E i).1 = 97
    · have hD := h.dr
      obtain ⟨r, r1, r2⟩ := nh_y h hs (w := 2) (k := eD E + 5) (by omega) (by omega)
      have hC : m_classOf (nI (eB E)) (gL M 0 11) M = some r := by
        unfold m_classOf
        rw [if_pos (b52 hb).1, show txN (5 * nI (eB E) + 2) = 5 * eB E + 2 from (b52 hb).2, (hD.sz 2 (by omega)).2, show (4 : Int32) * nI (eB E) = nI (4 * eB E) from nI_mul 4 _]
        have r1' : m_find 5 (nI (4 * eB E)) (nI (P 2)) (gL M 0 11) M = some r := r1
        rw [r1', Option.bind_some]
      have l2 : P 2 ≤ 4 := hD.lm.1 2 (by omega)
      rcases r2 with ⟨rfl, r2⟩ | ⟨j, hj, rfl, r2⟩
      · obtain ⟨z1, z2⟩ := rf_lv h (k := 2) (by decide)
        have z3 := mF_b (M := M) (k := 2) (by decide)
        refine ⟨_, _, mF M 2, 0, r2, ?_, Or.inl ⟨rfl, z2⟩⟩
        unfold m_readClassName m_readClassName_J31
        rw [in_y h hs, Option.bind_some]
        dsimp only
        rw [if_pos rfl, own hE h.fm, Option.bind_some, hC, Option.bind_some, if_neg (by decide), z1, Option.bind_some, nx_b z3, Option.bind_some, if_neg z3]
      · obtain ⟨M', e1, e2, e3, e4⟩ := adv h (by rw [hs]; decide)
        refine ⟨_, _, M', if gI M' 0 7 = 0 then (1 : Int32) <<< (nI j &&& 31) else 0, r2, ?_, Or.inr ⟨j, hj, rfl, AX.mk e4 (hX _ _ _ _ hx (xT_t _ _) e3), e3, fun z => if_pos z⟩⟩
        unfold m_readClassName m_readClassName_J31
        rw [in_y h hs, Option.bind_some]
        dsimp only
        rw [if_pos rfl, own hE h.fm, Option.bind_some, hC, Option.bind_some, if_pos (nI_pos' (by omega)), e1, Option.bind_some]
        split <;> rfl
    · refine ⟨_, _, mF M 1, 0, nh_n h.dr.dc h.tc hs (w := 2) (by omega) (by omega), ?_, Or.inl ⟨rfl, (rf_lv h (by decide)).2⟩⟩
      unfold m_readClassName
      rw [in_n h hs, Option.bind_some]
      rfl
  · exact ⟨_, _, M, 0, nh_n h.dc h.tc (by rw [h.is]; decide) (w := 2) (by omega) (by omega), cn_b h.nb, Or.inl ⟨rfl, rf_li h⟩⟩
theorem rc15f {l : Bool} {n : Int32} {f : Nat} (hf : 0 < f) : cReader_readClasses_L15 k l f false n S = some (S, true) := by
  obtain ⟨f, rfl⟩ := Nat.exists_eq_add_of_lt hf
  rw [Nat.zero_add, cReader_readClasses_L15, if_neg Bool.false_ne_true]
theorem cl_add {n v c : Nat} (hn : n ≤ 4) (hv : v < 16) (hc : c < n) (h4 : ∀ c, c < 4 → bt (nI v) c = true → c < n) : ∃ w, w < 16 ∧ nI v ||| ((1 : Int32) <<< (nI c &&& 31)) = nI w ∧ ∀ c, c < 4 → bt (nI w) c = true → c < n := by
  refine ⟨v ||| 2 ^ c, Nat.or_lt_two_pow (n := 4) hv (Nat.pow_lt_pow_right (by decide) (by omega)), by rw [sh_1 c (by omega), nx_or], fun c' hc' hb => ?_⟩
  rw [← nx_or, b_or, ← sh_1 c (by omega), b_sh1 (by omega) (by omega)] at hb
  by_cases e : c' = c
  · omega
  · rw [decide_eq_false e, Bool.or_false] at hb
    exact h4 c' hc' hb
/-- the class that was named goes into the rule -/
theorem cl_wr (hE : Ew E) (hm : P 4 < 24) (hk : k = eD E + 21 + 4 * P 4) (hr : r = 24 * eB E + P 4) (hX : Sta (xM k) (yM r) X) {c : Nat} (hc : c < P 2) (h2 : P 2 ≤ 4) {v0 : Nat} (hv0 : v0 < 16) (h4 : ∀ c, c < 4 → bt (nI v0) c = true → c < P 2) {x y : Int32} (h : AX E P X S M i) (hx : x = nI v0 ||| ((1 : Int32) <<< (nI c &&& 31))) (hy : gI M 0 7 = 0 → y = x) : AX E P (fun S M => X S M ∧ ClR S M k r (P 2)) (pI S k 9 x) (pI M 16 r y) i := by
  have hb := hE.2.1
  refine h.wr hm ((eqC.rf _ _).I _ (nxW (by omega) (by omega))) ((eqC.rf _ _).I _ (nyW (Or.inl ⟨by omega, by omega, hr⟩))) (fun hl g => ⟨hX _ _ _ _ g ((eqC.rf _ _).I _ (fun z => z.2 ⟨rfl, Or.inl rfl⟩)) ((eqC.rf _ _).I _ (fun z => z.2.1 ⟨rfl, rfl⟩)), ?_⟩)
  obtain ⟨w, w1, w2, w3⟩ := cl_add h2 hv0 hc h4
  exact ⟨w, w1, by rw [gI_same, hx, w2], by rw [gI_same, hy hl.ok, hx, w2], w3⟩
theorem rcl (hE : Ew E) (hm : P 4 < 24) (hk : k = eD E + 21 + 4 * P 4) (hr : r = 24 * eB E + P 4) (hX : Sta (xM k) (yM r) X) {i0 : Nat} {F : CS × Bool → Option (CS × Bool)} (h0 : ∀ S', F (S', false) = some (S', false)) (hK : ∀ S' M' j', i0 ≤ j' → AX E P (fun S M => X S M ∧ ClR S M k r (P 2)) S' M' j' → Ou E Q2 (F (S', true)) (m_readRule_J361 (nI r) M')) : ∀ e j, 481 ≤ j + e → ∀ n f g (l : Bool), n + 2 ≤ j → i0 ≤ j → e < f → e < g → ∀ (S : CS) (M : MS), AX E P (fun S M => X S M ∧ ClR S M k r (P 2)) S M j → Ou E Q2 ((if l = true then ((cTokens_skip 125 S).bind fun q71 => (if q71.2 = true then cReader_readClasses_L15 k l f false (nI (n + 1)) q71.1 else cReader_readClasses_L15 k l f true (nI (n + 1)) q71.1)) else cReader_readClasses_L15 k l f false (nI (n + 1)) S).bind F) (m_readRule_L312 (nI r) l g M) := by
  have hb := hE.2.1
  have hd := hE.1
  have hXY : Sta xT yTk (fun S M => X S M ∧ ClR S M k r (P 2)) := Sta.an hX.m (ClR.st (by omega))
  have hin : inbd (nI r) 48 = true := inb_nI (by omega) (by omega)
  have htx : txN (nI r) = r := tx_nI (by omega)
  intro e
  induction e with
  | zero =>
    intro j hj n f g l hn hi hf hg S M h
    have := h.tc.lt
    omega
  | succ e ih =>
    intro j hj n f g l hn hi hf hg S M h
    have hjl := h.tc.lt
    obtain ⟨g, rfl⟩ := Nat.exists_eq_add_of_lt hg
    cases l
    · rw [if_neg Bool.false_ne_true, rc15f (by omega), Option.bind_some, m_readRule_L312, if_neg Bool.false_ne_true]
      unfold m_readRule_J350
      rw [if_neg Bool.false_ne_true]
      exact hK _ _ j hi h
    · rw [if_pos rfl]
      obtain ⟨S1, M1, fl, e1, e2, e3⟩ := skX hXY h (v := 125) (c := 125) rfl (by omega) (by omega) (by omega) (by omega)
      rw [e1, Option.bind_some]
      dsimp only
      rcases e3 with ⟨rfl, rfl, rfl, t3⟩ | ⟨rfl, t3, h1, -⟩
      · rw [if_neg Bool.false_ne_true]
        obtain ⟨f, rfl⟩ := Nat.exists_eq_add_of_lt hf
        rw [cReader_readClasses_L15, if_pos rfl, if_neg (show ¬ (480 : Int32) ≤ nI (n + 1) from nI_ge (b := 480) (by omega) (by omega))]
        simp only [bd]
        rw [h.ptr, if_pos (kd_d hd)]
        have l2 : P 2 ≤ 4 := (h.dc.nn 2 (by omega)).1
        obtain ⟨S2, r2, M2, v2, a1, a2, a3⟩ := rd_cn hE hXY h
        rw [a1, Option.bind_some]
        dsimp only
        rcases h with ⟨h, hx⟩ | h
        · rw [m_readRule_L312, if_pos rfl, if_pos h.ok, show m_is 125 M1 = some (decide ((tkE E j).1 = 125)) from is_m h (c := 125) (by omega) (by omega) (by omega), decide_eq_false t3, Option.bind_some, if_neg Bool.false_ne_true, if_pos hin, a2, Option.bind_some, htx]
          simp only [bd]
          rw [if_pos hin]
          rcases a3 with ⟨rfl, a3⟩ | ⟨c, hc, rfl, a3, a4, a5⟩
          · rw [if_pos rfl, Option.bind_some, h0]
            have hbm : BM E (fun M2 => m_readRule_L312 (nI r) true (e + 1 + g) (pI M2 16 r (gI M1 16 r ||| v2))) := by
              rw [hr]
              exact (b312 hE hm true (by omega)).wI (v := fun _ => gI M1 16 (24 * eB E + P 4) ||| v2) (y16 (k := 16) hm (by omega) (by omega))
            exact Ou.fb (k := fun M2 => m_readRule_L312 (nI r) true (e + 1 + g) (pI M2 16 r (gI M1 16 r ||| v2))) a3 hbm
          · obtain ⟨v0, w1, w2, w3, w4⟩ := hx.2
            have hS2 : gI S2 k 9 = nI v0 := by
              have : S2 = pI S1 3 4 (nI (j + 1)) := by
                have hs : (tkE E j).1 = 97 := Decidable.byContradiction (fun z => by
                  have q := nh_n h.dr.dc h.tc z (w := 2) (k := eD E + 5) (by omega) (by omega)
                  rw [a1] at q
                  exact ne_m1 (show c < 2 ^ 31 by omega) (congrArg Prod.snd (Option.some.inj q)))
                obtain ⟨rr, -, r3⟩ := nh_y h hs (w := 2) (k := eD E + 5) (by omega) (by omega)
                rw [a1] at r3
                rcases r3 with ⟨-, r3⟩ | ⟨jj, -, -, r3⟩
                · exact absurd (congrArg Prod.snd (Option.some.inj r3)) (ne_m1 (show c < 2 ^ 31 by omega))
                · exact congrArg Prod.fst (Option.some.inj r3)
              rw [this, gI_other _ _ (by omega)]
              exact w2
            rw [if_neg (ne_m1 (by omega)), hS2, w3, nI_1]
            have h5 := cl_wr hE hm hk hr hX hc l2 w1 w4 (a3.im (fun _ _ g => g.1)) (x := nI v0 ||| ((1 : Int32) <<< (nI c &&& 31))) (y := nI v0 ||| v2) rfl (fun z => by rw [a5 z])
            have := ih (j + 1) (by omega) (n + 1) (e + 1 + f) (e + 1 + g) true (by omega) (by omega) (by omega) (by omega) _ _ h5
            rw [if_pos rfl] at this
            exact this
        · have q := nh_n h.dc h.tc (by rw [h.is]; decide) (w := 2) (k := eD E + 5) (by omega) (by omega)
          rw [a1] at q
          have q1 := congrArg Prod.snd (Option.some.inj q)
          have q2 := congrArg Prod.fst (Option.some.inj q)
          dsimp only at q1 q2
          rw [q1, q2, if_pos rfl, Option.bind_some, h0]
          have hbm : BM E (m_readRule_L312 (nI r) true (e + 1 + g + 1)) := by
            rw [hr]
            exact b312 hE hm true (by omega)
          exact Ou.fb (rf_li h) hbm
      · rw [if_pos rfl, rc15f (by omega), Option.bind_some]
        rcases h with ⟨h, hx⟩ | h
        · rw [m_readRule_L312, if_pos rfl, if_pos h.ok, show m_is 125 M = some (decide ((tkE E j).1 = 125)) from is_m h (c := 125) (by omega) (by omega) (by omega), decide_eq_true t3, Option.bind_some, if_pos rfl]
          unfold m_readRule_J350
          rw [if_pos rfl, mu_y e2, Option.bind_some]
          exact hK _ _ (j + 1) (by omega) h1
        · have := h.is
          omega
theorem rd_cls (hE : Ew E) (hm : P 4 < 24) (hk : k = eD E + 21 + 4 * P 4) (hr : r = 24 * eB E + P 4) (hX : Sta (xM k) (yM r) X) (hi2 : 2 ≤ i) {F : CS × Bool → Option (CS × Bool)} (h0 : ∀ S', F (S', false) = some (S', false)) (hK : ∀ S' M' j', i ≤ j' → AX E P (fun S M => X S M ∧ ClR S M k r (P 2)) S' M' j' → Ou E Q2 (F (S', true)) (m_readRule_J361 (nI r) M')) (h : AX E P (fun S M => X S M ∧ gI S k 9 = 0) S M i) : Ou E Q2 ((cReader_readClasses k S).bind F) ((m_passes 123 M).bind fun q296 => ((m_readClassName q296.1).bind fun q308 => (if inbd (nI r) 48 = true then (bd (pI q308.1 16 (txN (nI r)) q308.2) fun S311 => m_readRule_L312 (nI r) q296.2 600 S311) else none))) := by
  have hb := hE.2.1
  have hd := hE.1
  have hin : inbd (nI r) 48 = true := inb_nI (by omega) (by omega)
  have htx : txN (nI r) = r := tx_nI (by omega)
  have hXY : Sta xT yTk (fun S M => X S M ∧ gI S k 9 = 0) := Sta.an hX.m (fun S M S' M' g e1 e2 => (e1 k 9 (fun z => by omega)).1.trans g)
  unfold cReader_readClasses
  obtain ⟨S1, M1, fl, e1, e2, e3⟩ := skX hXY h (v := 123) (c := 123) rfl (by omega) (by omega) (by omega) (by omega)
  rw [e1, e2, Option.bind_some, Option.bind_some]
  dsimp only
  have h1 : ∃ j1, i ≤ j1 ∧ AX E P (fun S M => X S M ∧ gI S k 9 = 0) S1 M1 j1 := by
    rcases e3 with ⟨-, rfl, rfl, -⟩ | ⟨-, -, h1, -⟩
    · exact ⟨i, Nat.le_refl _, h⟩
    · exact ⟨i + 1, by omega, h1⟩
  obtain ⟨j1, hj1, h1⟩ := h1
  rw [show (600 : Nat) = 599 + 1 from rfl, cReader_readClasses_L15, if_pos rfl, if_neg (by decide)]
  simp only [bd]
  rw [h1.ptr, if_pos (kd_d hd), htx]
  simp only [if_pos hin]
  have l2 : P 2 ≤ 4 := (h1.dc.nn 2 (by omega)).1
  obtain ⟨S2, r2, M2, v2, a1, a2, a3⟩ := rd_cn hE hXY h1
  rw [a1, a2, Option.bind_some, Option.bind_some]
  dsimp only
  rcases a3 with ⟨rfl, a3⟩ | ⟨c, hc, rfl, a3, a4, a5⟩
  · rw [if_pos rfl, Option.bind_some, h0]
    have hbm : BM E (fun M2 => m_readRule_L312 (nI r) fl (599 + 1) (pI M2 16 r v2)) := by
      rw [hr]
      exact (b312 hE hm fl (by omega)).wI (v := fun _ => v2) (y16 (k := 16) hm (by omega) (by omega))
    exact Ou.fb (k := fun M2 => m_readRule_L312 (nI r) fl (599 + 1) (pI M2 16 r v2)) a3 hbm
  · rw [if_neg (ne_m1 (by omega))]
    have h5 : AX E P (fun S M => X S M ∧ ClR S M k r (P 2)) (pI S2 k 9 (gI S2 k 9 ||| ((1 : Int32) <<< (nI c &&& 31)))) (pI M2 16 r v2) (j1 + 1) := by
      rcases a3 with ⟨a3, ax⟩ | a3
      · refine cl_wr hE hm hk hr hX hc l2 (v0 := 0) (by omega) (fun c hc hb => by rw [show nI 0 = 0 from rfl, b_0] at hb; exact absurd hb Bool.false_ne_true) (Or.inl ⟨a3, ax.1⟩) (by rw [ax.2]; rfl) (fun z => ?_)
        rw [ax.2, a5 z]
        exact (b_ext (fun i hi => by rw [b_or, b_0, Bool.false_or])).symm
      · exact AX.wr (X := fun _ _ => True) (Or.inr a3) hm ((eqC.rf _ _).I _ (nxW (by omega) (by omega))) ((eqC.rf _ _).I _ (nyW (Or.inl ⟨by omega, by omega, hr⟩))) (fun hl _ => absurd a3.is hl.ne)
    rw [show (0 : Int32) + 1 = nI (0 + 1) from rfl]
    exact rcl hE hm hk hr hX h0 hK 481 (j1 + 1) (by omega) 0 599 (599 + 1) fl (by omega) (by omega) (by omega) (by omega) _ _ h5
end RCL
