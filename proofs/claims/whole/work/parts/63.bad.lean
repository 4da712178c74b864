/-! the reference goes on behind its fault -/
theorem r4x {r c : Nat} (hr : r < 48) (hc : c < 4) : inbd (4 * nI r + nI c) 192 = true ∧ txN (4 * nI r + nI c) = 4 * r + c := by
  rw [show (4 : Int32) * nI r = nI (4 * r) from nI_mul 4 _, nI_add]
  exact ⟨inb_nI (by omega) (by omega), tx_nI (by omega)⟩
section BAD
variable {E : EnvR} {P : Nat → Nat} {S S' S0 : CS} {M M' M'' : MS} {i : Nat}
theorem BM.wI {k j : Nat} {v : MS → Int32} {h : MS → Option MS} (h1 : BM E h) (hD : yD (eB E) 24 k j) : BM E (fun M => h (pI M k j (v M))) := by
  intro M hb hf
  have m1 : MB E M (pI M k j (v M)) := MB.rf.I _ hD
  obtain ⟨M2, e2, g2⟩ := h1 (pI M k j (v M)) (by rw [m1.1]; exact hb) (hf.tr m1.2.2)
  exact ⟨M2, e2, m1.tr g2⟩
theorem BM.wB {k j : Nat} {v : MS → Bool} {h : MS → Option MS} (h1 : BM E h) (hD : yD (eB E) 24 k j) : BM E (fun M => h (pB M k j (v M))) := by
  intro M hb hf
  have m1 : MB E M (pB M k j (v M)) := MB.rf.B _ hD
  obtain ⟨M2, e2, g2⟩ := h1 (pB M k j (v M)) hb (hf.tr m1.2.2)
  exact ⟨M2, e2, m1.tr g2⟩
theorem BM.eq {h g : MS → Option MS} (h1 : BM E h) (he : ∀ M, ¬ gI M 0 7 = 0 → FM E M → g M = h M) : BM E g := by
  intro M hb hf
  rw [he M hb hf]
  exact h1 M hb hf
theorem cn_b (h : ¬ gI M 0 7 = 0) : m_readClassName M = some (M, 0) := by
  unfold m_readClassName
  rw [in_b h, Option.bind_some]
  rfl
theorem pm_b {v : Int32} (h : ¬ gI M 0 7 = 0) : m_readPermission v M = some M := by
  unfold m_readPermission
  rw [in_b h, Option.bind_some]
  rfl
theorem y16 {b m k : Nat} (hm : m < 24) (h1 : 11 ≤ k) (h2 : k ≤ 19) : yD b 24 k (24 * b + m) := y_11 h1 h2 (by omega) (by omega)
theorem y20 {b m c : Nat} (hm : m < 24) (hc : c < 4) : yD b 24 20 (4 * (24 * b + m) + c) := y_20 (by omega) (by omega)
theorem b86 (hE : Ew E) {m : Nat} (hm : m < 24) {inv ev : Bool} : ∀ e c, c + e = 4 → ∀ g, e < g → BM E (m_readPermissions_L86 (nI (24 * eB E + m)) inv ev g (nI c)) := by
  have hb := hE.2.1
  intro e
  induction e with
  | zero =>
    intro c hc g hg
    obtain ⟨g, rfl⟩ := Nat.exists_eq_add_of_lt hg
    intro M hb hf
    refine ⟨M, ?_, MB.rf⟩
    rw [Nat.zero_add, m_readPermissions_L86, if_pos (show (4 : Int32) ≤ nI c from nI_le (a := 4) (by omega) (by omega))]
  | succ e ih =>
    intro c hc g hg
    obtain ⟨g, rfl⟩ := Nat.exists_eq_add_of_lt hg
    intro M hb' hf
    have r4 := r4x (r := 24 * eB E + m) (c := c) (by omega) (by omega)
    have step : ∀ v, ∃ M', m_readPermissions_L86 (nI (24 * eB E + m)) inv ev (e + 1 + g) (nI (c + 1)) (pI M 20 (4 * (24 * eB E + m) + c) v) = some M' ∧ MB E M M' := by
      intro v
      have m1 : MB E M (pI M 20 (4 * (24 * eB E + m) + c) v) := MB.rf.I _ (y20 hm (by omega))
      obtain ⟨M2, e2, g2⟩ := ih (c + 1) (by omega) (e + 1 + g) (by omega) (pI M 20 (4 * (24 * eB E + m) + c) v) (by rw [m1.1]; exact hb') (hf.tr m1.2.2)
      exact ⟨M2, e2, m1.tr g2⟩
    have j132 : ∀ v5 s0, ∃ M', m_readPermissions_J132 (m_readPermissions_L86 (nI (24 * eB E + m)) inv ev (e + 1 + g)) (nI (24 * eB E + m)) inv ev (nI c) v5 s0 M = some M' ∧ MB E M M' := by
      intro v5 s0
      unfold m_readPermissions_J132
      simp only [bd]
      simp only [if_pos (inb_nI (show 24 * eB E + m < 48 by omega) (by omega)), if_pos r4.1, r4.2, nI_1]
      split
      · exact step _
      · split
        · exact step _
        · exact step _
    rw [m_readPermissions_L86, if_neg (show ¬ (4 : Int32) ≤ nI c from nI_ge (b := 4) (by omega) (by omega)), own hE hf, Option.bind_some, if_pos (bk4 hb (c := c) (by omega)).1]
    simp only [bd]
    split
    · exact j132 _ _
    · rw [if_pos r4.1]
      exact j132 _ _
theorem bPs (hE : Ew E) {m : Nat} (hm : m < 24) : BM E (m_readPermissions (nI (24 * eB E + m))) := by
  refine (b86 hE hm (inv := false) (ev := false) 4 0 (by omega) 600 (by omega)).eq (fun M hb hf => ?_)
  unfold m_readPermissions
  rw [pa_b hb, Option.bind_some, is_b hb, Option.bind_some, if_neg Bool.false_ne_true, pa_b hb, Option.bind_some, if_neg Bool.false_ne_true, pm_b hb, Option.bind_some]
  rfl
theorem b367 : BM E m_readRule_J367 := by
  unfold m_readRule_J367
  exact (BM.mu 59).bs
theorem b361 (hE : Ew E) {m : Nat} (hm : m < 24) : BM E (m_readRule_J361 (nI (24 * eB E + m))) := by
  unfold m_readRule_J361
  exact (bPs hE hm).bd b367
theorem b350 (hE : Ew E) {m : Nat} (hm : m < 24) (l : Bool) : BM E (m_readRule_J350 (nI (24 * eB E + m)) l) := by
  cases l
  · exact (b361 hE hm).eq (fun M _ _ => by unfold m_readRule_J350; rw [if_neg Bool.false_ne_true])
  · exact ((BM.mu 125).bd (b361 hE hm)).eq (fun M _ _ => by unfold m_readRule_J350; rw [if_pos rfl])
theorem b312 (hE : Ew E) {m : Nat} (hm : m < 24) (l : Bool) {f : Nat} (hf : 0 < f) : BM E (m_readRule_L312 (nI (24 * eB E + m)) l f) := by
  obtain ⟨f, rfl⟩ := Nat.exists_eq_add_of_lt hf
  refine (b350 hE hm l).eq (fun M hb _ => ?_)
  rw [Nat.zero_add, m_readRule_L312, if_neg hb]
  split <;> rfl
theorem b286 : BM E m_readRule_J286 := by
  unfold m_readRule_J286
  exact BM.nx.bd b367
theorem b271 (hE : Ew E) {m : Nat} (hm : m < 24) : BM E (m_readRule_J271 (nI (24 * eB E + m))) := by
  have hb := hE.2.1
  refine (b286 (E := E)).eq (fun M hb _ => ?_)
  unfold m_readRule_J271
  rw [if_pos (inb_nI (show 24 * eB E + m < 48 by omega) (by omega)), fail_1 hb, Option.bind_some]
  split <;> rfl
def r225 (v1 v4 v5 : Int32) (q228 : MS) : Option MS := (if v1 = 4 then ((m_readClassName q228).bind fun q243 => (if inbd v5 48 = true then (bd (pI q243.1 16 (txN v5) q243.2) fun S246 => ((m_isName S246).bind fun q248 => (if q248.2 = true then ((m_typeOf v4 (gL q248.1 0 11) q248.1).bind fun q267 => (if inbd v5 48 = true then (bd (pI q248.1 17 (txN v5) q267) fun S270 => m_readRule_J271 v5 S270) else none)) else m_readRule_J271 v5 q248.1))) else none)) else ((m_passes 123 q228).bind fun q296 => ((m_readClassName q296.1).bind fun q308 => (if inbd v5 48 = true then (bd (pI q308.1 16 (txN v5) q308.2) fun S311 => m_readRule_L312 v5 q296.2 600 S311) else none))))
theorem J225_eq (v1 v4 v5 : Int32) (M : MS) : m_readRule_J225 v1 v4 v5 M = (m_must 58 M).bind (r225 v1 v4 v5) := by
  unfold m_readRule_J225
  cases m_must 58 M with
  | none => rw [Option.bind_none, Option.bind_none]
  | some q =>
    rw [Option.bind_some, Option.bind_some]
    unfold r225
    rfl
theorem b225r (hE : Ew E) {m : Nat} (hm : m < 24) (v1 v4 : Int32) : BM E (r225 v1 v4 (nI (24 * eB E + m))) := by
  have hb := hE.2.1
  have hin := inb_nI (show 24 * eB E + m < 48 by omega) (by omega)
  have htx := tx_nI (show 24 * eB E + m < 2 ^ 31 by omega)
  by_cases h4 : v1 = 4
  · refine ((b271 hE hm).wI (v := fun _ => 0) (y16 (k := 16) hm (by omega) (by omega))).eq (fun M hb _ => ?_)
    have hb' : ¬ gI (pI M 16 (24 * eB E + m) 0) 0 7 = 0 := by rw [gI_other _ _ (by omega)]; exact hb
    unfold r225
    simp only [bd]
    rw [if_pos h4, cn_b hb, Option.bind_some, if_pos hin, htx, in_b hb', Option.bind_some]
    rfl
  · refine ((b312 hE hm false (f := 600) (by omega)).wI (v := fun _ => 0) (y16 (k := 16) hm (by omega) (by omega))).eq (fun M hb _ => ?_)
    unfold r225
    simp only [bd]
    rw [if_neg h4, pa_b hb, Option.bind_some]
    dsimp only
    rw [cn_b hb, Option.bind_some, if_pos hin, htx]
theorem b225 (hE : Ew E) {m : Nat} (hm : m < 24) (v1 v4 : Int32) : BM E (m_readRule_J225 v1 v4 (nI (24 * eB E + m))) := ((BM.mu 58).bd (b225r hE hm v1 v4)).eq (fun M _ _ => J225_eq _ _ _ M)
theorem bst (hE : Ew E) {m s : Nat} (hm : m < 24) (hs : s = 2 * (24 * eB E + m) ∨ s = 2 * (24 * eB E + m) + 1) : BM E (m_readSet (nI s)) := by
  have hb := hE.2.1
  have hi : inbd (nI s) 96 = true := inb_nI (by omega) (by omega)
  have hs' : txN (nI s) = s := tx_nI (by omega)
  refine (((itm_b hE hm hs false).wI (v := fun _ => 0) (k := 22) (j := s) (y_21 (Or.inr rfl) (by omega) (by omega))).wI (v := fun _ => 0) (k := 21) (j := s) (y_21 (Or.inl rfl) (by omega) (by omega))).eq (fun M hb _ => ?_)
  have hb' : ¬ gI (pI (pI M 21 s 0) 22 s 0) 0 7 = 0 := by rw [gI_other _ _ (by omega), gI_other _ _ (by omega)]; exact hb
  unfold m_readSet m_readSet_J20
  rw [pa_b hb, Option.bind_some]
  dsimp only
  simp only [bd]
  rw [if_neg Bool.false_ne_true, if_pos hi, if_pos hi, hs', pa_b hb', Option.bind_some]
  dsimp only
  rw [if_neg Bool.false_ne_true, pa_b hb', Option.bind_some]
  dsimp only
  rw [if_neg Bool.false_ne_true, if_pos hi]
  have := itm_bd false s (pI (pI M 21 s 0) 22 s 0) some
  rw [show (itm false s (pI (pI M 21 s 0) 22 s 0)).bind some = itm false s (pI (pI M 21 s 0) 22 s 0) by cases itm false s (pI (pI M 21 s 0) 22 s 0) <;> rfl] at this
  simp only [if_pos hi]
  exact this
theorem b197 (hE : Ew E) {m : Nat} (hm : m < 24) (v1 v4 : Int32) (s0 : Bool) : BM E (m_readRule_J197 v1 v4 (nI (24 * eB E + m)) s0 (nI (24 * eB E + m))) := by
  have hb := hE.2.1
  have hin := inb_nI (show 24 * eB E + m < 48 by omega) (by omega)
  have htx := tx_nI (show 24 * eB E + m < 2 ^ 31 by omega)
  cases s0
  · refine ((((bst hE hm (s := 2 * (24 * eB E + m) + 1) (Or.inr rfl))).bd (b225 hE hm v1 v4)).wB (v := fun _ => false) (y16 (k := 19) hm (by omega) (by omega))).eq (fun M hb _ => ?_)
    unfold m_readRule_J197
    simp only [bd]
    rw [if_pos hin, if_pos hin, htx, gB_same, if_neg Bool.false_ne_true, show (2 : Int32) * nI (24 * eB E + m) + 1 = nI (2 * (24 * eB E + m) + 1) by rw [show (2 : Int32) * nI (24 * eB E + m) = nI (2 * (24 * eB E + m)) from nI_mul 2 _, nI_1]]
  · refine ((BM.nx.bd (b225 hE hm v1 v4)).wB (v := fun _ => true) (y16 (k := 19) hm (by omega) (by omega))).eq (fun M hb _ => ?_)
    unfold m_readRule_J197
    simp only [bd]
    rw [if_pos hin, if_pos hin, htx, gB_same, if_pos rfl]
end BAD
