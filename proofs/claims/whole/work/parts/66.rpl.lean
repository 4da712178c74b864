section RPL
variable {E : EnvR} {P : Nat → Nat} {S S' S0 : CS} {M M' M'' : MS} {i k r : Nat} {X Y : CS → MS → Prop} {Q2 : CS → MS → Prop}
theorem pas_y {v : Int32} (h : m_passes v M = some (M', true)) : m_is v M = some true ∧ m_next M = some M' := by
  unfold m_passes at h
  cases h1 : m_is v M with
  | none => rw [h1] at h; exact absurd h (by simp)
  | some b =>
    rw [h1, Option.bind_some] at h
    cases b
    · rw [if_neg Bool.false_ne_true] at h
      exact absurd (congrArg Prod.snd (Option.some.inj h)) Bool.false_ne_true
    · rw [if_pos rfl] at h
      cases h2 : m_next M with
      | none => rw [h2] at h; exact absurd h (by simp)
      | some q =>
        rw [h2, Option.bind_some] at h
        exact ⟨rfl, congrArg some (congrArg Prod.fst (Option.some.inj h))⟩
theorem pas_n {v : Int32} (h : m_passes v M = some (M', false)) : m_is v M = some false := by
  unfold m_passes at h
  cases h1 : m_is v M with
  | none => rw [h1] at h; exact absurd h (by simp)
  | some b =>
    rw [h1, Option.bind_some] at h
    cases b
    · rfl
    · rw [if_pos rfl] at h
      cases h2 : m_next M with
      | none => rw [h2] at h; exact absurd h (by simp)
      | some q =>
        rw [h2, Option.bind_some] at h
        exact absurd (congrArg Prod.snd (Option.some.inj h)).symm Bool.false_ne_true
theorem b37 (hE : Ew E) {m : Nat} (hm : m < 24) {inv ev : Bool} {v : Int32} {g : Nat} (hg : 0 < g) : BM E (m_readPermissions_L37 (nI (24 * eB E + m)) inv ev g v) := by
  obtain ⟨g, rfl⟩ := Nat.exists_eq_add_of_lt hg
  refine (b86 hE hm (inv := inv) (ev := ev) 4 0 (by omega) 600 (by omega)).eq (fun M hb hf => ?_)
  rw [Nat.zero_add, m_readPermissions_L37, if_neg hb]
  unfold m_readPermissions_J69
  rw [mu_b hb, Option.bind_some]
  rfl
theorem rp57f {inv ev l : Bool} {n : Int32} {f : Nat} (hf : 0 < f) : cReader_readPermissions_L57 k inv ev l f false n S = cReader_readPermissions_J110 k inv ev S := by
  obtain ⟨f, rfl⟩ := Nat.exists_eq_add_of_lt hf
  rw [Nat.zero_add, cReader_readPermissions_L57, if_neg Bool.false_ne_true]
theorem pl_loop (hE : Ew E) (hm : P 4 < 24) (hk : k = eD E + 21 + 4 * P 4) (hr : r = 24 * eB E + P 4) (hX : Sta (xP k) (yP r) X) (h10 : P 10 = P 2) {inv : Bool} : ∀ e j, 481 ≤ j + e → ∀ n f g (v4 : Int32), n + 1 ≤ j → e < f → e < g → ∀ (S : CS) (M : MS), AX E P (XP X k r (P 2)) S M j → (¬ v4 = 0 ∨ (tkE E j).1 ≠ 125) → Ou E (fun S' M' => ∃ i', j < i' ∧ AX E P (XP X k r (P 2)) S' M' i') (cReader_readPermissions_L57 k inv false true f true (nI n) S) (m_readPermissions_L37 (nI r) inv false g v4 M) := by
  have hb := hE.2.1
  have hd := hE.1
  have hXY : Sta xT yTk (XP X k r (P 2)) := Sta.an (Sta.an hX.p (ClR.st (by omega))) (PeR.st (by omega))
  intro e
  induction e with
  | zero =>
    intro j hj n f g v4 hn hf hg S M h hh
    have := h.tc.lt
    omega
  | succ e ih =>
    intro j hj n f g v4 hn hf hg S M h hh
    have hjl := h.tc.lt
    obtain ⟨f, rfl⟩ := Nat.exists_eq_add_of_lt hf
    obtain ⟨g, rfl⟩ := Nat.exists_eq_add_of_lt hg
    rw [cReader_readPermissions_L57, if_pos rfl, if_neg (show ¬ (480 : Int32) ≤ nI n from nI_ge (b := 480) (by omega) (by omega))]
    rcases h with h | h
    · have hmod : m_readPermissions_L37 (nI r) inv false (e + 1 + g + 1) v4 M = m_readPermissions_J58 (m_readPermissions_L37 (nI r) inv false (e + 1 + g)) (nI r) inv false M := by
        rw [m_readPermissions_L37, if_pos h.1.ok]
        by_cases hv : v4 = 0
        · have := hh.resolve_left (fun z => z hv)
          rw [if_pos hv, show m_is 125 M = some (decide ((tkE E j).1 = 125)) from is_m h.1 (c := 125) (by omega) (by omega) (by omega), decide_eq_false this, Option.bind_some, if_neg Bool.false_ne_true]
        · rw [if_neg hv]
      rw [hmod]
      unfold m_readPermissions_J58
      have hbm : BM E (fun q63 => m_readPermissions_L37 (nI r) inv false (e + 1 + g) 0 q63) := by
        rw [hr]
        exact b37 hE hm (by omega)
      refine (rd_pm hE hm hk hr hX h10 (Or.inl h)).sq hbm (fun _ => rfl) (fun S2 M2 h2 => ?_)
      dsimp only
      rw [if_pos rfl, if_pos rfl]
      obtain ⟨S3, M3, f3, k1, k2, k3⟩ := skX hXY h2 (v := 125) (c := 125) rfl (by omega) (by omega) (by omega) (by omega)
      rw [k1, Option.bind_some]
      simp only [bd]
      rcases k3 with ⟨rfl, rfl, rfl, t3⟩ | ⟨rfl, t3, h3, -⟩
      · rw [if_neg Bool.false_ne_true, nI_1]
        exact (ih (j + 1) (by omega) (n + 1) (e + 1 + f) (e + 1 + g) 0 (by omega) (by omega) (by omega) _ _ h2 (Or.inr t3)).im (fun _ _ ⟨i', p1, p2⟩ => ⟨i', by omega, p2⟩)
      · rw [if_pos rfl, rp57f (by omega)]
        rcases h2 with ⟨h2, -⟩ | h2
        · have hg0 : 0 < e + 1 + g := by omega
          obtain ⟨g', hg'⟩ := Nat.exists_eq_add_of_lt hg0
          rw [hg', Nat.zero_add, m_readPermissions_L37, if_pos h2.ok, if_pos rfl, show m_is 125 M2 = some (decide ((tkE E (j + 1)).1 = 125)) from is_m h2 (c := 125) (by omega) (by omega) (by omega), decide_eq_true t3, Option.bind_some, if_pos rfl]
          unfold m_readPermissions_J69
          rw [mu_y k2, Option.bind_some]
          exact (pm_fin hE hm hk hr hX h10 h3 (fun z => absurd z Bool.false_ne_true)).im (fun _ _ z => ⟨_, by omega, z⟩)
        · have := h2.is
          omega
    · have hcl : cReader_readPermissionName k S = some (pI S 2 2 1, false) := by
        unfold cReader_readPermissionName cReader_refuse
        rw [is97 h.tc, Option.bind_some, decide_eq_false (by rw [h.is]; decide), if_neg Bool.false_ne_true]
        rfl
      rw [hcl, Option.bind_some]
      dsimp only
      rw [if_neg Bool.false_ne_true]
      have hbm : BM E (m_readPermissions_L37 (nI r) inv false (e + 1 + g + 1) v4) := by
        rw [hr]
        exact b37 hE hm (by omega)
      exact Ou.fb (rf_li h) hbm
theorem rd_perms (hE : Ew E) (hm : P 4 < 24) (hk : k = eD E + 21 + 4 * P 4) (hr : r = 24 * eB E + P 4) (hX : Sta (xP k) (yP r) X) (h10 : P 10 = P 2) (h : AX E P (fun S M => (X S M ∧ ClR S M k r (P 2)) ∧ ∀ c, c < 4 → gI S (k + 3) c = 0 ∧ gI M 20 (4 * r + c) = 0) S M i) : Ou E (fun S' M' => ∃ i', i < i' ∧ AX E P (XP X k r (P 2)) S' M' i') (cReader_readPermissions k S) (m_readPermissions (nI r) M) := by
  have hb := hE.2.1
  have hd := hE.1
  have hY : Sta xT yTk (fun S M => (X S M ∧ ClR S M k r (P 2)) ∧ ∀ c, c < 4 → gI S (k + 3) c = 0 ∧ gI M 20 (4 * r + c) = 0) := Sta.an (Sta.an hX.p (ClR.st (by omega))) (fun S M S' M' g e1 e2 c hc => ⟨(e1 (k + 3) c (fun z => by omega)).1.trans (g c hc).1, (e2 20 _ (fun z => by omega)).1.trans (g c hc).2⟩)
  have toP : ∀ S M, ((X S M ∧ ClR S M k r (P 2)) ∧ ∀ c, c < 4 → gI S (k + 3) c = 0 ∧ gI M 20 (4 * r + c) = 0) → XP X k r (P 2) S M := fun S M g => ⟨g.1, fun c hc => ⟨0, by omega, (g.2 c hc).1, (g.2 c hc).2, fun _ => rfl⟩⟩
  unfold cReader_readPermissions m_readPermissions
  obtain ⟨S1, M1, inv, a1, a2, a3⟩ := skX hY h (v := 126) (c := 126) rfl (by omega) (by omega) (by omega) (by omega)
  rw [a1, a2, Option.bind_some, Option.bind_some]
  dsimp only
  have h1 : ∃ j1, i ≤ j1 ∧ AX E P (fun S M => (X S M ∧ ClR S M k r (P 2)) ∧ ∀ c, c < 4 → gI S (k + 3) c = 0 ∧ gI M 20 (4 * r + c) = 0) S1 M1 j1 := by
    rcases a3 with ⟨-, rfl, rfl, -⟩ | ⟨-, -, h1, -⟩
    · exact ⟨i, Nat.le_refl _, h⟩
    · exact ⟨i + 1, by omega, h1⟩
  obtain ⟨j1, hj1, h1⟩ := h1
  obtain ⟨S2, M2, ev, c1, c2, c3⟩ := skX hY h1 (v := 42) (c := 42) rfl (by omega) (by omega) (by omega) (by omega)
  rw [c1, Option.bind_some]
  dsimp only
  rcases c3 with ⟨rfl, rfl, rfl, -⟩ | ⟨rfl, -, h2, -⟩
  · rw [pas_n c2, Option.bind_some, if_neg Bool.false_ne_true, if_neg Bool.false_ne_true]
    obtain ⟨S3, M3, l, k1, k2, k3⟩ := skX hY h1 (v := 123) (c := 123) rfl (by omega) (by omega) (by omega) (by omega)
    rw [k1, k2, Option.bind_some, Option.bind_some]
    dsimp only
    rcases k3 with ⟨rfl, rfl, rfl, -⟩ | ⟨rfl, -, h3, -⟩
    · rw [if_neg Bool.false_ne_true, if_neg Bool.false_ne_true]
      unfold cReader_readPermissions_J40 cReader_readPermissions_J41
      rw [if_neg Bool.false_ne_true, show (600 : Nat) = 599 + 1 from rfl, cReader_readPermissions_L57, if_pos rfl, if_neg (by decide)]
      have hbm : BM E (fun q80 => m_readPermissions_L86 (nI r) inv false (599 + 1) 0 q80) := by
        rw [hr]
        exact b86 hE hm 4 0 (by omega) 600 (by omega)
      refine (rd_pm hE hm hk hr hX h10 (h1.im toP)).sq hbm (fun _ => rfl) (fun S4 M4 h4 => ?_)
      dsimp only
      rw [if_pos rfl, if_neg Bool.false_ne_true]
      simp only [bd]
      rw [rp57f (by omega)]
      exact (pm_fin hE hm hk hr hX h10 h4 (fun z => absurd z Bool.false_ne_true)).im (fun _ _ z => ⟨_, by omega, z⟩)
    · rw [if_pos rfl, if_pos rfl]
      unfold cReader_readPermissions_J41
      rw [if_neg Bool.false_ne_true]
      exact (pl_loop hE hm hk hr hX h10 481 (j1 + 1) (by omega) 0 600 600 1 (by omega) (by omega) (by omega) _ _ (h3.im toP) (Or.inl (by decide))).im (fun _ _ ⟨i', p1, p2⟩ => ⟨i', by omega, p2⟩)
  · obtain ⟨d1, d2⟩ := pas_y c2
    rw [d1, Option.bind_some, if_pos rfl, if_pos rfl, d2, Option.bind_some]
    unfold cReader_readPermissions_J40 cReader_readPermissions_J41
    rw [if_pos rfl, rp57f (by omega)]
    exact (pm_fin hE hm hk hr hX h10 (h2.im toP) (fun _ hl c hc => ((h2.get hl).2 c hc).1)).im (fun _ _ z => ⟨_, by omega, z⟩)
end RPL
section RMV
variable {E : EnvR} {P : Nat → Nat} {S S' S0 : CS} {M M' M'' : MS} {i k r : Nat} {X Y : CS → MS → Prop} {Q2 : CS → MS → Prop}
def ToR (S : CS) (M : MS) (k r n : Nat) : Prop := ∃ t, t < n ∧ gI S k 11 = nI t ∧ gI M 17 r = nI t
theorem Bd.cw (h : Bd E S M) {j a : Nat} {v : Int32} (h1 : 7 ≤ a) (h2 : ¬ xF (eD E) a j) : Bd E (pI S a j v) M := by
  obtain ⟨i, g1, g2, g3, g4, g5, g6⟩ := h
  exact ⟨i, g1.w ((eqC.rf _ _).I _ (by omega)), g2.I _ h2, g3, by rw [gI_other _ _ (by omega)]; exact g4, g5, g6⟩
theorem rd_move (hE : Ew E) (hm : P 4 < 24) (hk : k = eD E + 21 + 4 * P 4) (hr : r = 24 * eB E + P 4) (hX : Sta (xM k) (yM r) X) (h : AX E P X S M i) : Ou E (fun S' M' => ∃ i', i < i' ∧ AX E P (fun S M => (X S M ∧ ClR S M k r (P 2)) ∧ ToR S M k r (P 0)) S' M' i') ((cReader_readMove k S).bind fun q139 => cReader_readRule_J166 q139.2 q139.1) ((m_readClassName M).bind fun q243 => (if inbd (nI r) 48 = true then (bd (pI q243.1 16 (txN (nI r)) q243.2) fun S246 => ((m_isName S246).bind fun q248 => (if q248.2 = true then ((m_typeOf (nI (eB E)) (gL q248.1 0 11) q248.1).bind fun q267 => (if inbd (nI r) 48 = true then (bd (pI q248.1 17 (txN (nI r)) q267) fun S270 => m_readRule_J271 (nI r) S270) else none)) else m_readRule_J271 (nI r) q248.1))) else none)) := by
  have hb := hE.2.1
  have hd := hE.1
  have hin : inbd (nI r) 48 = true := inb_nI (by omega) (by omega)
  have htx : txN (nI r) = r := tx_nI (by omega)
  have b27 : BM E (m_readRule_J271 (nI r)) := by rw [hr]; exact b271 hE hm
  have hXY : Sta xT yTk (fun S M => X S M ∧ ClR S M k r (P 2)) := Sta.an hX.m (ClR.st (by omega))
  simp only [bd, if_pos hin, htx]
  unfold cReader_readMove
  simp only [bd]
  rw [h.ptr, if_pos (kd_d hd)]
  have l2 : P 2 ≤ 4 := (h.dc.nn 2 (by omega)).1
  obtain ⟨S2, r2, M2, v2, a1, a2, a3⟩ := rd_cn hE hX.m h
  rw [a1, a2, Option.bind_some, Option.bind_some]
  dsimp only
  rcases a3 with ⟨rfl, a3⟩ | ⟨c, hc, rfl, a3, a4, a5⟩
  · rw [if_pos rfl, Option.bind_some]
    have hmb : MB E M2 (pI M2 16 r v2) := MB.rf.I _ (by rw [hr]; exact y16 hm (by omega) (by omega))
    have hB := a3.mb hmb
    rw [in_b hB.nb, Option.bind_some]
    dsimp only
    rw [if_neg Bool.false_ne_true]
    unfold cReader_readRule_J166
    rw [if_neg Bool.false_ne_true]
    exact Ou.fb hB b27
  · rw [if_neg (ne_m1 (by omega))]
    have h5 : AX E P (fun S M => X S M ∧ ClR S M k r (P 2)) (pI S2 k 9 ((1 : Int32) <<< (nI c &&& 31))) (pI M2 16 r v2) (i + 1) := by
      rcases a3 with ⟨a3, ax⟩ | a3
      · refine cl_wr hE hm hk hr hX hc l2 (v0 := 0) (by omega) (fun c hc hb => by rw [show nI 0 = 0 from rfl, b_0] at hb; exact absurd hb Bool.false_ne_true) (Or.inl ⟨a3, ax⟩) ?_ (fun z => a5 z)
        exact (b_ext (fun i hi => by rw [show nI 0 = 0 from rfl, b_or, b_0, Bool.false_or])).symm
      · exact AX.wr (X := fun _ _ => True) (Or.inr a3) hm ((eqC.rf _ _).I _ (nxW (by omega) (by omega))) ((eqC.rf _ _).I _ (nyW (Or.inl ⟨by omega, by omega, hr⟩))) (fun hl _ => absurd a3.is hl.ne)
    generalize pI S2 k 9 ((1 : Int32) <<< (nI c &&& 31)) = S3 at h5 ⊢
    generalize pI M2 16 r v2 = M3 at h5 ⊢
    rw [h5.ptr, if_pos (kd_d hd)]
    have nof : ∀ (T : CS), (if gI (pI T k 11 (-1)) k 11 = -1 then some (pI T k 11 (-1), false) else some (pI T k 11 (-1), true) : Option (CS × Bool)) = some (pI T k 11 (-1), false) := by
      intro T
      rw [gI_same, if_pos rfl]
    rcases h5 with ⟨h5, hx⟩ | h5
    · have hD := h5.dr
      by_cases hs : (tkE E (i + 1)).1 = 97
      · obtain ⟨q, q1, q2⟩ := nh_y h5 hs (w := 0) (k := eD E + 1) (by omega) (by omega)
        have hT : m_typeOf (nI (eB E)) (gL M3 0 11) M3 = some q := by
          unfold m_typeOf
          rw [if_pos (bk50 hb).1, (bk50 hb).2, show gI M3 2 (5 * eB E) = nI (P 0) from (hD.sz 0 (by omega)).2, show (12 : Int32) * nI (eB E) = nI (12 * eB E) from nI_mul 12 _]
          have q1' : m_find 3 (nI (12 * eB E)) (nI (P 0)) (gL M3 0 11) M3 = some q := q1
          rw [q1', Option.bind_some]
        have l0 : P 0 ≤ 12 := hD.lm.1 0 (by omega)
        rw [in_y h5 hs, Option.bind_some]
        dsimp only
        rw [if_pos rfl, hT, Option.bind_some]
        have hw : ∀ v, Lv E P (pI S3 k 11 v) (pI M3 17 r v) (i + 1) := fun v => h5.wr hm ((eqC.rf _ _).I _ (nxW (by omega) (by omega))) ((eqC.rf _ _).I _ (nyW (Or.inl ⟨by omega, by omega, hr⟩)))
        unfold m_readRule_J271
        rw [if_pos hin, htx, gI_same]
        rcases q2 with ⟨rfl, q2⟩ | ⟨t, ht, rfl, q2⟩
        · rw [q2, Option.bind_some]
          dsimp only
          rw [nof, Option.bind_some, if_neg (by decide)]
          unfold cReader_readRule_J166
          rw [if_neg Bool.false_ne_true]
          obtain ⟨z1, z2⟩ := rf_lv (hw (-1)) (k := 2) (by decide)
          rw [z1, Option.bind_some, pI_cm _ _ _ (by omega)]
          exact Ou.fb z2 b286
        · rw [q2, Option.bind_some]
          dsimp only
          rw [gI_same, if_neg (ne_m1 (by omega)), Option.bind_some, if_pos (nI_pos' (by omega))]
          unfold cReader_readRule_J166 m_readRule_J286 m_readRule_J367
          dsimp only
          rw [if_pos rfl, pI_cm _ _ _ (by omega)]
          obtain ⟨v, w1, w2, w3, w4⟩ := hx.2
          have hx' : (fun S M => (X S M ∧ ClR S M k r (P 2)) ∧ ToR S M k r (P 0)) (pI S3 k 11 (nI t)) (pI M3 17 r (nI t)) := ⟨⟨hX _ _ _ _ hx.1 ((eqC.rf _ _).I _ (fun z => z.2 ⟨rfl, Or.inr rfl⟩)) ((eqC.rf _ _).I _ (fun z => z.2.2 ⟨rfl, rfl⟩)), v, w1, by rw [gI_other _ _ (by omega)]; exact w2, by rw [gI_other _ _ (by omega)]; exact w3, w4⟩, t, ht, gI_same _ _ _ _, gI_same _ _ _ _⟩
          have hXT : Sta xT yTk (fun S M => (X S M ∧ ClR S M k r (P 2)) ∧ ToR S M k r (P 0)) := Sta.an hXY (by
            rintro S M S' M' ⟨t, g1, g2, g3⟩ e1 e2
            exact ⟨t, g1, (e1 k 11 (fun z => by omega)).1.trans g2, (e2 17 r (fun z => by omega)).1.trans g3⟩)
          obtain ⟨M4, z1, z2, z3⟩ := adX hXT (hw (nI t)) hx' (by rw [hs]; decide)
          rw [z1, Option.bind_some]
          exact (Ou.m1 (Ou.c2 (exX hXT z3 (c := 59) rfl (by omega) (by omega) (by omega) (by omega)))).im (fun _ _ z => ⟨_, by omega, z⟩)
      · rw [nh_n hD.dc h5.tc hs (w := 0) (by omega) (by omega), Option.bind_some, in_n h5 hs, Option.bind_some]
        dsimp only
        rw [nof, Option.bind_some, if_neg Bool.false_ne_true]
        unfold cReader_readRule_J166
        rw [if_neg Bool.false_ne_true]
        exact Ou.fb ((rf_lv h5 (by decide)).2.cw (by omega) (nxF_d (by omega) (by omega))) b27
    · rw [nh_n h5.dc h5.tc (by rw [h5.is]; decide) (w := 0) (by omega) (by omega), Option.bind_some, in_b h5.nb, Option.bind_some]
      dsimp only
      rw [nof, Option.bind_some, if_neg Bool.false_ne_true]
      unfold cReader_readRule_J166
      rw [if_neg Bool.false_ne_true]
      exact Ou.fb ((rf_li h5).cw (by omega) (nxF_d (by omega) (by omega))) b27
end RMV
