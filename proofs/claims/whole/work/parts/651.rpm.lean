section RPF
variable {E : EnvR} {P : Nat → Nat} {S S' S0 : CS} {M M' M'' : MS} {i k r : Nat} {X Y : CS → MS → Prop} {Q2 : CS → MS → Prop}
def alB (x : Int32) : Int32 := ((1 : Int32) <<< (x &&& 31)) - 1
theorem al_n : ∀ n, n < 9 → alB (nI n) = nI (2 ^ n - 1) := by decide +kernel
theorem an_lt {a : Nat} (ha : a < 256) (y : Int32) : ∃ w, w < 256 ∧ nI a &&& y = nI w := by
  obtain ⟨n, -, rfl⟩ := wb_of32 y
  exact ⟨a &&& n, Nat.lt_of_le_of_lt Nat.and_le_left ha, nx_and a n⟩
theorem an_0 (x : Int32) : x &&& ((0 : Int32) ^^^ (-1)) = x := b_ext (fun i hi => by rw [b_and, b_xor, b_0, b_m1 i hi]; simp)
theorem an_n (x : Int32) : x &&& (x ^^^ (-1)) = 0 := b_ext (fun i hi => by rw [b_and, b_xor, b_m1 i hi, b_0]; cases bt x i <;> rfl)
theorem inv_c {d : Nat} (hd : d = 7 ∨ d = 124) (hk : d + 21 ≤ k) : ∀ e c, c + e = 4 → ∀ f, e < f → ∀ S : CS, gR S 2 1 = d → ∃ S', cReader_invertPermissions_L2 k f (nI c) S = some S' ∧ eqC (fun a _ => a ≠ k + 3) S S' ∧ (∀ c', c' < c → gI S' (k + 3) c' = gI S (k + 3) c') ∧ ∀ c', c ≤ c' → c' < 4 → gI S' (k + 3) c' = if bt (gI S k 9) c' = true then alB (gI S (d + 13 + 2 * c') 1) &&& (gI S (k + 3) c' ^^^ (-1)) else gI S (k + 3) c' := by
  intro e
  induction e with
  | zero =>
    intro c hc f hf S hr
    obtain ⟨f, rfl⟩ := Nat.exists_eq_add_of_lt hf
    exact ⟨S, by rw [Nat.zero_add, cReader_invertPermissions_L2, if_pos (show (4 : Int32) ≤ nI c from nI_le (a := 4) (by omega) (by omega))], eqC.rf _ _, fun _ _ => rfl, fun c' h1 h2 => by omega⟩
  | succ e ih =>
    intro c hc f hf S hr
    obtain ⟨f, rfl⟩ := Nat.exists_eq_add_of_lt hf
    rw [cReader_invertPermissions_L2, if_neg (show ¬ (4 : Int32) ≤ nI c from nI_ge (b := 4) (by omega) (by omega)), hb_eq _ (by omega), Option.bind_some]
    simp only [bd]
    rw [nI_1]
    by_cases hbit : bt (gI S k 9) c = true
    · unfold cNames_allBits
      rw [if_pos hbit, hr, if_pos (kd_d hd), if_pos (inb_nI (show c < 4 by omega) (by omega)), tx_nI (show c < 2 ^ 31 by omega), Option.bind_some, if_pos (inb_nI (show c < 4 by omega) (by omega)), if_pos (inb_nI (show c < 4 by omega) (by omega)), show d + 9 + (4 + 2 * c) = d + 13 + 2 * c by omega]
      obtain ⟨S', e1, e2, e3, e4⟩ := ih (c + 1) (by omega) (e + 1 + f) (by omega) (pI S (k + 3) c (alB (gI S (d + 13 + 2 * c) 1) &&& (gI S (k + 3) c ^^^ (-1)))) hr
      refine ⟨S', e1, (((eqC.rf _ _).I _ (fun z => z rfl)).tr e2), fun c' h1 => ?_, fun c' h1 h2 => ?_⟩
      · rw [e3 c' (by omega), gI_other _ _ (by omega)]
      · by_cases ec : c' = c
        · subst ec
          rw [e3 c' (by omega), gI_same, if_pos hbit]
        · rw [e4 c' (by omega) h2, gI_other _ _ (by omega), gI_other _ _ (by omega), gI_other _ _ (by omega)]
    · rw [if_neg hbit]
      obtain ⟨S', e1, e2, e3, e4⟩ := ih (c + 1) (by omega) (e + 1 + f) (by omega) S hr
      refine ⟨S', e1, e2, fun c' h1 => e3 c' (by omega), fun c' h1 h2 => ?_⟩
      by_cases ec : c' = c
      · subst ec
        rw [e3 c' (by omega), if_neg hbit]
      · exact e4 c' (by omega) h2
def pvM (inv ev : Bool) (bit : Bool) (base x : Int32) : Int32 := if bit = false then 0 else if inv = true then base &&& ((if ev = true then base else x) ^^^ (-1)) else (if ev = true then base else x)
theorem p86 (hE : Ew E) {inv ev : Bool} {m : Nat} (hm : m < 24) (hr : r = 24 * eB E + m) : ∀ e c, c + e = 4 → ∀ g, e < g → ∀ M : MS, FM E M → ∃ M', m_readPermissions_L86 (nI r) inv ev g (nI c) M = some M' ∧ eqC (fun a j => ¬ (a = 20 ∧ 4 * r ≤ j ∧ j < 4 * r + 4)) M M' ∧ (∀ c', c' < c → gI M' 20 (4 * r + c') = gI M 20 (4 * r + c')) ∧ ∀ c', c ≤ c' → c' < 4 → gI M' 20 (4 * r + c') = pvM inv ev (bt (gI M 16 r) c') (alB (gI M 9 (4 * eB E + c'))) (gI M 20 (4 * r + c')) := by
  have hb := hE.2.1
  have hin : inbd (nI r) 48 = true := inb_nI (by omega) (by omega)
  have htx : txN (nI r) = r := tx_nI (by omega)
  intro e
  induction e with
  | zero =>
    intro c hc g hg M hf
    obtain ⟨g, rfl⟩ := Nat.exists_eq_add_of_lt hg
    exact ⟨M, by rw [Nat.zero_add, m_readPermissions_L86, if_pos (show (4 : Int32) ≤ nI c from nI_le (a := 4) (by omega) (by omega))], eqC.rf _ _, fun _ _ => rfl, fun c' h1 h2 => by omega⟩
  | succ e ih =>
    intro c hc g hg M hf
    obtain ⟨g, rfl⟩ := Nat.exists_eq_add_of_lt hg
    have r4 := r4x (r := r) (c := c) (by omega) (by omega)
    have step : ∀ z, z = pvM inv ev (bt (gI M 16 r) c) (alB (gI M 9 (4 * eB E + c))) (gI M 20 (4 * r + c)) → ∃ M', m_readPermissions_L86 (nI r) inv ev (e + 1 + g) (nI (c + 1)) (pI M 20 (4 * r + c) z) = some M' ∧ eqC (fun a j => ¬ (a = 20 ∧ 4 * r ≤ j ∧ j < 4 * r + 4)) M M' ∧ (∀ c', c' < c → gI M' 20 (4 * r + c') = gI M 20 (4 * r + c')) ∧ ∀ c', c ≤ c' → c' < 4 → gI M' 20 (4 * r + c') = pvM inv ev (bt (gI M 16 r) c') (alB (gI M 9 (4 * eB E + c'))) (gI M 20 (4 * r + c')) := by
      intro z hz
      have hD : yD (eB E) 24 20 (4 * r + c) := by rw [hr]; exact y20 hm (by omega)
      obtain ⟨M', e1, e2, e3, e4⟩ := ih (c + 1) (by omega) (e + 1 + g) (by omega) (pI M 20 (4 * r + c) z) (hf.I _ (nf_y hD))
      refine ⟨M', e1, ((eqC.rf _ _).I _ (fun z => z ⟨rfl, by omega, by omega⟩)).tr e2, fun c' h1 => ?_, fun c' h1 h2 => ?_⟩
      · rw [e3 c' (by omega), gI_other _ _ (by omega)]
      · by_cases ec : c' = c
        · subst ec
          rw [e3 c' (by omega), gI_same, hz]
        · rw [e4 c' (by omega) h2, gI_other _ _ (by omega), gI_other _ _ (by omega), gI_other _ _ (by omega)]
    rw [m_readPermissions_L86, if_neg (show ¬ (4 : Int32) ≤ nI c from nI_ge (b := 4) (by omega) (by omega)), own hE hf, Option.bind_some, if_pos (bk4 hb (c := c) (by omega)).1, (bk4 hb (c := c) (by omega)).2]
    unfold m_readPermissions_J132
    simp only [bd]
    simp only [if_pos hin, if_pos r4.1, htx, r4.2, nI_1]
    have step2 : ∀ x s0, (s0 = if ev = true then alB (gI M 9 (4 * eB E + c)) else gI M 20 (4 * r + c)) → x = alB (gI M 9 (4 * eB E + c)) → ∃ M', (if (gI M 16 r >>> (nI c &&& 31)) &&& 1 = 0 then m_readPermissions_L86 (nI r) inv ev (e + 1 + g) (nI (c + 1)) (pI M 20 (4 * r + c) 0) else (if inv = true then m_readPermissions_L86 (nI r) inv ev (e + 1 + g) (nI (c + 1)) (pI M 20 (4 * r + c) (x &&& (s0 ^^^ (-1)))) else m_readPermissions_L86 (nI r) inv ev (e + 1 + g) (nI (c + 1)) (pI M 20 (4 * r + c) s0))) = some M' ∧ eqC (fun a j => ¬ (a = 20 ∧ 4 * r ≤ j ∧ j < 4 * r + 4)) M M' ∧ (∀ c', c' < c → gI M' 20 (4 * r + c') = gI M 20 (4 * r + c')) ∧ ∀ c', c ≤ c' → c' < 4 → gI M' 20 (4 * r + c') = pvM inv ev (bt (gI M 16 r) c') (alB (gI M 9 (4 * eB E + c'))) (gI M 20 (4 * r + c')) := by
      intro x s0 hs0 hx
      by_cases hbit : bt (gI M 16 r) c = false
      · rw [if_pos ((bit_s _ (by omega)).mpr hbit)]
        exact step _ (by unfold pvM; rw [if_pos hbit])
      · rw [if_neg (fun z => hbit ((bit_s _ (by omega)).mp z))]
        by_cases hinv : inv = true
        · rw [if_pos hinv]
          exact step _ (by unfold pvM; rw [if_neg hbit, if_pos hinv, hs0, hx])
        · rw [if_neg hinv]
          exact step _ (by unfold pvM; rw [if_neg hbit, if_neg hinv, hs0])
    by_cases hev : ev = true
    · rw [if_pos hev]
      exact step2 _ _ (by rw [if_pos hev]; rfl) rfl
    · rw [if_neg hev]
      exact step2 _ _ (by rw [if_neg hev]) rfl
theorem bI_eq (a b : Bool) : (bI a = bI b) ↔ a = b := by cases a <;> cases b <;> decide
theorem pm_fin (hE : Ew E) (hm : P 4 < 24) (hk : k = eD E + 21 + 4 * P 4) (hr : r = 24 * eB E + P 4) (hX : Sta (xP k) (yP r) X) (h10 : P 10 = P 2) {inv ev : Bool} (h : AX E P (XP X k r (P 2)) S M i) (hz : ev = true → Lv E P S M i → ∀ c, c < 4 → gI S (k + 3) c = 0) : Ou E (fun S' M' => AX E P (XP X k r (P 2)) S' M' i) (cReader_readPermissions_J110 k inv ev S) (m_readPermissions_L86 (nI r) inv ev 600 0 M) := by
  have hb := hE.2.1
  have hd := hE.1
  obtain ⟨M', m1, m2, -, m4⟩ := p86 hE (inv := inv) (ev := ev) hm hr 4 0 (by omega) 600 (by omega) M h.fm
  have m1' : m_readPermissions_L86 (nI r) inv ev 600 0 M = some M' := m1
  rw [m1']
  have hcl : ∃ S', cReader_readPermissions_J110 k inv ev S = some (S', true) ∧ eqC (fun a _ => a ≠ k + 3) S S' ∧ ∀ c', c' < 4 → gI S' (k + 3) c' = if bt (gI S k 9) c' = true ∧ inv ≠ ev then alB (gI S (eD E + 13 + 2 * c') 1) &&& (gI S (k + 3) c' ^^^ (-1)) else gI S (k + 3) c' := by
    unfold cReader_readPermissions_J110 cReader_invertPermissions
    by_cases hie : inv = ev
    · rw [if_pos ((bI_eq _ _).mpr hie)]
      exact ⟨S, rfl, eqC.rf _ _, fun c' _ => by rw [if_neg (fun z => z.2 hie)]⟩
    · rw [if_neg (fun z => hie ((bI_eq _ _).mp z))]
      obtain ⟨S', e1, e2, -, e4⟩ := inv_c hd (by omega : eD E + 21 ≤ k) 4 0 (by omega) 600 (by omega) S h.ptr
      have e1' : cReader_invertPermissions_L2 k 600 0 S = some S' := e1
      rw [e1', Option.bind_some]
      refine ⟨S', rfl, e2, fun c' hc' => ?_⟩
      rw [e4 c' (by omega) hc']
      by_cases hbit : bt (gI S k 9) c' = true
      · rw [if_pos hbit, if_pos ⟨hbit, hie⟩]
      · rw [if_neg hbit, if_neg (fun z => hbit z.1)]
  obtain ⟨S', c1, c2, c4⟩ := hcl
  rw [c1]
  refine Ou.t (h.wr hm (c2.mono (fun a j g z => g ⟨by omega, by omega⟩)) (m2.mono (fun a j g z => g (Or.inr (Or.inl ⟨z.1, by omega, by omega⟩)))) (fun hl g => ?_))
  have hD := hl.dr
  obtain ⟨⟨gx, v, v1, v2, v3, v4⟩, gp⟩ := g
  have s9 : gI S' k 9 = gI S k 9 := (c2 k 9 (by omega)).1
  refine ⟨⟨hX _ _ _ _ gx (c2.mono (fun a j g => g.2.2)) (m2.mono (fun a j g => g.2.2.2)), v, v1, s9.trans v2, (m2 16 r (by omega)).1.trans v3, v4⟩, fun c hc => ?_⟩
  obtain ⟨w, w1, w2, w3, w4⟩ := gp c hc
  have hcc := c4 c hc
  have hmm := m4 c (by omega) hc
  rw [s9]
  unfold pvM at hmm
  rw [v2, w2] at hcc
  rw [v3, w3] at hmm
  by_cases hbit : bt (nI v) c = true
  · have hcn := v4 c hc hbit
    have l8 := hD.lm.2.2.2.1 c hc
    have hps := hD.ps c hc
    rw [hps.1, al_n _ (by omega)] at hcc
    rw [hps.2 (by omega), al_n _ (by omega), if_neg (by rw [hbit]; decide)] at hmm
    have hp : 2 ^ P (5 + c) - 1 < 256 := by
      have : 2 ^ P (5 + c) ≤ 2 ^ 8 := Nat.pow_le_pow_right (by decide) l8
      omega
    have fin : ∀ z : Int32, (∃ q, q < 256 ∧ z = nI q) → gI S' (k + 3) c = z → gI M' 20 (4 * r + c) = z → ∃ q, q < 256 ∧ gI S' (k + 3) c = nI q ∧ gI M' 20 (4 * r + c) = nI q ∧ (bt (gI S k 9) c = false → q = 0) := by
      rintro z ⟨q, q1, rfl⟩ a1 a2
      exact ⟨q, q1, a1, a2, fun y => by rw [v2, hbit] at y; exact absurd y (by decide)⟩
    cases hev : ev with
    | false =>
      subst hev
      rw [if_neg Bool.false_ne_true] at hmm
      cases hinv : inv with
      | false =>
        subst hinv
        rw [if_neg (fun z => z.2 rfl)] at hcc
        rw [if_neg Bool.false_ne_true] at hmm
        exact fin _ ⟨w, w1, rfl⟩ hcc hmm
      | true =>
        subst hinv
        rw [if_pos ⟨hbit, by decide⟩] at hcc
        rw [if_pos rfl] at hmm
        exact fin _ (an_lt hp _) hcc hmm
    | true =>
      subst hev
      have hw0 : nI w = 0 := w2.symm.trans (hz rfl hl c hc)
      rw [if_pos rfl] at hmm
      rw [hw0] at hcc
      cases hinv : inv with
      | false =>
        subst hinv
        rw [if_pos ⟨hbit, by decide⟩, an_0] at hcc
        rw [if_neg Bool.false_ne_true] at hmm
        exact fin _ ⟨_, hp, rfl⟩ hcc hmm
      | true =>
        subst hinv
        rw [if_neg (fun z => z.2 rfl)] at hcc
        rw [if_pos rfl, an_n] at hmm
        exact fin _ ⟨0, by omega, rfl⟩ hcc hmm
  · have hbf : bt (nI v) c = false := by simpa using hbit
    rw [if_neg (fun z => hbit z.1)] at hcc
    rw [if_pos hbf] at hmm
    have hw0 := w4 (by rw [v2]; exact hbf)
    subst hw0
    exact ⟨0, by omega, hcc, hmm, fun _ => rfl⟩
end RPF
