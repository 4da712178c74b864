/-! the declaring statements -/
def Pc (P : Nat → Nat) : Prop := P 10 = P 2 ∧ P 11 = P 0 ∧ P 12 = P 3 ∧ P 9 = P 4
def Qs (E : EnvR) (P : Nat → Nat) (X : CS → MS → Prop) (i : Nat) (S' : CS) (M' : MS) : Prop := ∃ P' i', i < i' ∧ Pc P' ∧ P' 4 = P 4 ∧ AX E P' X S' M' i'
section STM
variable {E : EnvR} {P : Nat → Nat} {S S' S0 : CS} {M M' M'' : MS} {i : Nat} {X Y : CS → MS → Prop} {Q Q2 : CS → MS → Prop}
theorem Sta.c {x y : Nat → Nat → Prop} (h : Sta x y X) (C : Prop) : Sta x y (fun S M => X S M ∧ C) := fun S M S' M' g e1 e2 => ⟨h S M S' M' g.1 e1 e2, g.2⟩
theorem AX.c (h : AX E P X S M i) {C : Prop} (g : Lv E P S M i → C) : AX E P (fun S M => X S M ∧ C) S M i := h.elim (fun q => Or.inl ⟨q.1, q.2, g q.1⟩) Or.inr
theorem Sta.tk {d b : Nat} (h : Sta (xN d) (yN b) X) : Sta xT yTk X := h.mono (fun _ _ g => xN_T g) (fun _ _ g => yN_T g)
theorem Li.sk (h : Li E P S M i) {v : Int32} {c : Nat} (hx : v = nI c) (hc : c < 127) (h3 : c ≠ 63) : cTokens_skip v S = some (S, false) := by
  subst hx
  unfold cTokens_skip
  rw [isc h.tc hc, Option.bind_some, decide_eq_false (by rw [h.is]; omega), if_neg Bool.false_ne_true]
theorem Li.ex (h : Li E P S M i) {v : Int32} {c : Nat} (hx : v = nI c) (hc : c < 127) (h3 : c ≠ 63) : cReader_expect v S = some (pI S 2 2 1, false) := by
  unfold cReader_expect cReader_refuse
  rw [h.sk hx hc h3, Option.bind_some]
  rfl
theorem rd_attr (hE : Ew E) (hX : Sta (xN (eD E)) (yN (eB E)) X) (ha : cTokens_advance S0 = some S) (h : AX E P X S M i) (hp : Pc P) : Ou E (Qs E P X i) (cReader_readAttribute S0) (m_readAttribute M) := by
  unfold cReader_readAttribute m_readAttribute
  rw [ha, Option.bind_some]
  simp only [bd]
  rw [h.ptr, if_pos (kd_d hE.1), if_pos (kd_d hE.1), own hE h.fm, Option.bind_some]
  obtain ⟨nm, t, e1, e2, hO⟩ := decl hE h hX (w := 1) (k := eD E + 3) (a := 4) (x1 := 1) (x3 := 4 * nI (eB E)) (x4 := 4) (by omega) (by omega) rfl rfl (nI_mul 4 _) rfl
  rw [e1, Option.bind_some, e2, Option.bind_some]
  refine hO.sq (BM.mu 59).bs (fun _ => rfl) (fun S' M' h' => ?_)
  dsimp only
  rw [if_pos rfl]
  refine Ou.m1 (Ou.c2 ((exX hX.tk h' (c := 59) rfl (by omega) (by omega) (by omega) (by omega)).im ?_))
  intro S2 M2 h2
  exact ⟨_, _, by omega, ⟨by rw [up_ne (by omega), up_ne (by omega)]; exact hp.1, by rw [up_ne (by omega), up_ne (by omega)]; exact hp.2.1, by rw [up_ne (by omega), up_ne (by omega)]; exact hp.2.2.1, by rw [up_ne (by omega), up_ne (by omega)]; exact hp.2.2.2⟩, up_ne (by omega), h2⟩
theorem skw (h : AX E P X S M i) {w : Nat} (h0 : 0 < w) (h15 : w < 15) : (cTokens_skipWord w S = some (S, false) ∧ (Lv E P S M i → gI M 0 5 = 1 → ¬ gL M 0 11 = mC w)) ∨ (cTokens_skipWord w S = some (pI S 3 4 (nI (i + 1)), true) ∧ Lv E P S M i ∧ (tkE E i).1 = 97 ∧ gI M 0 5 = 1 ∧ gL M 0 11 = mC w) := by
  have hn := nmE h.tc
  unfold cTokens_name at hn
  unfold cTokens_skipWord cTokens_skipWord_J22
  by_cases g : inbd (gI S 3 4) 481 = true
  · rw [if_pos g] at hn ⊢
    rw [Option.some.inj hn]
    by_cases e : (tkE E i).2.2.2.1 = wC w
    · right
      have hs : (tkE E i).1 = 97 := Decidable.byContradiction (fun z => by
        have := (tk_so E i).2 z
        rw [this] at e
        exact (nrw w h0 h15).ne.1 e.symm)
      have hl : Lv E P S M i := by
        rcases h with h | h
        · exact h.1
        · have := h.is
          omega
      obtain ⟨y0, y1, y2⟩ := hl.cu.2.2.2.1 hs
      rw [if_pos e, if_pos rfl, (adv_c h.tc (by rw [hs]; decide)).2.1, Option.bind_some]
      exact ⟨rfl, hl, hs, y0, by rw [y1]; exact (y2.eq (nrw w h0 h15)).mp e⟩
    · left
      rw [if_neg e, if_neg Bool.false_ne_true]
      refine ⟨rfl, fun hl h5 z => ?_⟩
      by_cases hs : (tkE E i).1 = 97
      · obtain ⟨y0, y1, y2⟩ := hl.cu.2.2.2.1 hs
        rw [y1] at z
        exact e ((y2.eq (nrw w h0 h15)).mpr z)
      · exact sort_ne hl hs h5
  · rw [if_neg g] at hn
    exact absurd hn (by simp)
theorem rb100 (h : ¬ gI M 0 7 = 0) : m_readBool_J100 M = some M := by
  unfold m_readBool_J100
  rw [nx_b h, Option.bind_some, mu_b h, Option.bind_some]
theorem rb86 {a : Int32} {v : Bool} (h : ¬ gI M 0 7 = 0) : m_readBool_J86 a v M = some M := by
  unfold m_readBool_J86
  rw [if_neg h, rb100 h]
theorem rb81 {a : Int32} {v : Bool} (h : ¬ gI M 0 7 = 0) : m_readBool_J81 a v M = some M := by
  unfold m_readBool_J81
  rw [fail_1 h, Option.bind_some, rb86 h]
theorem rb57 {a : Int32} {v : Bool} (h : ¬ gI M 0 7 = 0) : m_readBool_J57 a v M = some M := by
  unfold m_readBool_J57
  rw [rb86 h, rb81 h]
  split
  · rfl
  · split
    · split <;> rfl
    · rfl
/-- the value of a bool, once its word has been seen -/
theorem rd_bv (hE : Ew E) (hX : Sta (xN (eD E)) (yN (eB E)) X) (h : Lv E P S M i) (hx : X S M) (hs : (tkE E i).1 = 97) (v : Bool) (h3 : P 3 = P 12 + 1) {A : Int32} (hA : A = nI (3 * eB E + P 12)) : Ou E (fun S' M' => AX E (up P 12 (P 12 + 1)) X S' M' (i + 2)) (cReader_readBool_J71 v (pI S 3 4 (nI (i + 1)))) (m_readBool_J86 A v M) := by
  have hD := h.dr
  have l3 : P 3 ≤ 3 := hD.lm.1 3 (by omega)
  have hb := hE.2.1
  have hd := hE.1
  unfold cReader_readBool_J71 m_readBool_J86 m_readBool_J100
  simp only [bd]
  have hr : gR (pI S 3 4 (nI (i + 1))) 2 1 = eD E := hD.ptr
  have hz : gI (pI S 3 4 (nI (i + 1))) (eD E + 7) 1 - 1 = nI (P 12) := by
    rw [gI_other _ _ (by omega), show gI S (eD E + 7) 1 = nI (P 3) from (hD.sz 3 (by omega)).1, h3, nI_pred]
  rw [hr, if_pos (kd_d hd), if_pos (kd_d hd), hz, if_pos (inb_nI (by omega) (by omega)), tx_nI (by omega), if_pos h.ok, hA, if_pos (inb_nI (by omega) (by omega)), tx_nI (by omega)]
  have hL := h.up (((eqC.rf (xO (eD E)) S).B v (nxO (by omega) (by omega))) : eqC (xO (eD E)) S (pB S (eD E + 11) (P 12) v)) (((eqC.rf (yO (eB E)) M).B v (nyO (y_10 (by omega) (by omega)))) : eqC (yO (eB E)) M (pB M 10 (3 * eB E + P 12) v)) (hD.bv1 v (by omega))
  have hx' := hX _ _ _ _ hx (((eqC.rf (xN (eD E)) S).B v (nxN_d (by omega) (by omega))) : eqC (xN (eD E)) S (pB S (eD E + 11) (P 12) v)) (((eqC.rf (yN (eB E)) M).B v (nyN (y_10 (by omega) (by omega)))) : eqC (yN (eB E)) M (pB M 10 (3 * eB E + P 12) v))
  obtain ⟨M1, e1, e2, e3⟩ := adX hX.tk hL hx' (by rw [hs]; decide)
  rw [e1, Option.bind_some]
  exact Ou.e1 (exX hX.tk e3 (c := 59) rfl (by omega) (by omega) (by omega) (by omega))
theorem rd_bool (hE : Ew E) (hX : Sta (xN (eD E)) (yN (eB E)) X) (ha : cTokens_advance S0 = some S) (h : AX E P X S M i) (hp : Pc P) : Ou E (Qs E P X i) (cReader_readBool S0) (m_readBool M) := by
  unfold cReader_readBool m_readBool
  rw [ha, Option.bind_some]
  simp only [bd]
  have hb := hE.2.1
  rw [h.ptr, if_pos (kd_d hE.1), if_pos (kd_d hE.1), own hE h.fm, Option.bind_some, if_pos (b53 hb).1]
  generalize hA : 3 * nI (eB E) + gI M 2 (txN (5 * nI (eB E) + 3)) = A
  have hC : Lv E P S M i → A = nI (3 * eB E + P 3) := by
    intro hl
    rw [← hA, show txN (5 * nI (eB E) + 3) = 5 * eB E + 3 from (b53 hb).2, (hl.dr.sz 3 (by omega)).2, show (3 : Int32) * nI (eB E) = nI (3 * eB E) from nI_mul 3 _, nI_add]
  obtain ⟨nm, t, e1, e2, hO⟩ := decl hE (h.c hC) (hX.c _) (w := 3) (k := eD E + 7) (a := 7) (x1 := 3) (x3 := 3 * nI (eB E)) (x4 := 3) (by omega) (by omega) rfl rfl (nI_mul 3 _) rfl
  rw [e1, Option.bind_some, e2, Option.bind_some]
  refine hO.sq (BM.id (fun M hb => ?_)) (fun _ => rfl) (fun S' M' h' => ?_)
  · show (if gI M 0 5 = 1 then (if gL M 0 11 = 5317957 then m_readBool_J57 A true M else m_readBool_J56 A M) else m_readBool_J56 A M) = some M
    unfold m_readBool_J56
    rw [rb57 hb, rb57 hb]
    split
    · split <;> rfl
    · rfl
  · dsimp only
    rw [if_pos rfl]
    have fin : ∀ S2 M2, AX E (up (up P 3 (P 3 + 1)) 12 (up P 3 (P 3 + 1) 12 + 1)) (fun S M => X S M ∧ A = nI (3 * eB E + P 3)) S2 M2 (i + 1 + 2) → Qs E P X i S2 M2 := by
      intro S2 M2 h2
      refine ⟨_, _, by omega, ⟨?_, ?_, ?_, ?_⟩, ?_, h2.im (fun _ _ g => g.1)⟩
      · rw [up_ne (by omega), up_ne (by omega), up_ne (by omega), up_ne (by omega)]; exact hp.1
      · rw [up_ne (by omega), up_ne (by omega), up_ne (by omega), up_ne (by omega)]; exact hp.2.1
      · rw [up_eq, up_ne (by omega), up_ne (by omega), up_eq]; rw [hp.2.2.1]
      · rw [up_ne (by omega), up_ne (by omega), up_ne (by omega), up_ne (by omega)]; exact hp.2.2.2
      · rw [up_ne (by omega), up_ne (by omega)]
    have u3 : up P 3 (P 3 + 1) 3 = up P 3 (P 3 + 1) 12 + 1 := by rw [up_eq, up_ne (by omega), hp.2.2.1]
    have u12 : up P 3 (P 3 + 1) 12 = P 3 := by rw [up_ne (by omega), hp.2.2.1]
    rcases skw h' (w := 12) (by omega) (by omega) with ⟨k1, k2⟩ | ⟨k1, k2, k3, k4, k5⟩
    · rw [k1, Option.bind_some]
      dsimp only
      rw [if_neg Bool.false_ne_true]
      rcases skw h' (w := 13) (by omega) (by omega) with ⟨l1, l2⟩ | ⟨l1, l2, l3, l4, l5⟩
      · rw [l1, Option.bind_some]
        dsimp only
        rw [if_neg Bool.false_ne_true]
        unfold cReader_refuse
        rcases h' with ⟨h', hx⟩ | h'
        · have : (if gI M' 0 5 = 1 then (if gL M' 0 11 = 5317957 then m_readBool_J57 A true M' else m_readBool_J56 A M') else m_readBool_J56 A M') = some (mF M' 1) := by
            have j81 : m_readBool_J81 A false M' = some (mF M' 1) := by
              unfold m_readBool_J81
              rw [fail_0 h'.ok, Option.bind_some]
              exact rb86 (M := mF M' 1) (mF_b (by decide))
            unfold m_readBool_J56 m_readBool_J57
            rw [if_neg Bool.false_ne_true, j81]
            by_cases g5 : gI M' 0 5 = 1
            · simp only [if_pos g5, if_neg (show ¬ gL M' 0 11 = 5317957 from k2 h' g5), if_neg (show ¬ gL M' 0 11 = 100975813 from l2 h' g5)]
            · simp only [if_neg g5]
          rw [this]
          exact Ou.f (rf_lv h' (by decide)).2
        · have hb' := h'.nb
          have : (if gI M' 0 5 = 1 then (if gL M' 0 11 = 5317957 then m_readBool_J57 A true M' else m_readBool_J56 A M') else m_readBool_J56 A M') = some M' := by
            unfold m_readBool_J56
            rw [rb57 hb', rb57 hb']
            split
            · split <;> rfl
            · rfl
          rw [this]
          exact Ou.f (rf_li h')
      · rw [l1, Option.bind_some]
        dsimp only
        rw [if_pos rfl]
        have hx := h'.get l2
        have : (if gI M' 0 5 = 1 then (if gL M' 0 11 = 5317957 then m_readBool_J57 A true M' else m_readBool_J56 A M') else m_readBool_J56 A M') = m_readBool_J86 A false M' := by
          unfold m_readBool_J56 m_readBool_J57
          rw [if_pos l4, if_neg (show ¬ gL M' 0 11 = 5317957 from k2 l2 l4), if_neg Bool.false_ne_true, if_pos l4, if_pos (show gL M' 0 11 = 100975813 from l5)]
        rw [this]
        exact (rd_bv hE (hX.c _) l2 hx l3 false u3 (by rw [u12]; exact hx.2)).im fin
    · rw [k1, Option.bind_some]
      dsimp only
      rw [if_pos rfl]
      have hx := h'.get k2
      have : (if gI M' 0 5 = 1 then (if gL M' 0 11 = 5317957 then m_readBool_J57 A true M' else m_readBool_J56 A M') else m_readBool_J56 A M') = m_readBool_J86 A true M' := by
        unfold m_readBool_J57
        rw [if_pos k4, if_pos (show gL M' 0 11 = 5317957 from k5), if_pos rfl]
      rw [this]
      exact (rd_bv hE (hX.c _) k2 hx k3 true u3 (by rw [u12]; exact hx.2)).im fin
end STM
