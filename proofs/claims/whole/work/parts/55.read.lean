/-! both parsers at one token -/
abbrev EnvR : Type := (Nat → Nat) × Nat × Nat × Nat × Nat × CS × MS
def eD (E : EnvR) : Nat := E.2.2.2.1
def eB (E : EnvR) : Nat := E.2.2.2.2.1
abbrev eS (E : EnvR) : CS := E.2.2.2.2.2.1
abbrev eM (E : EnvR) : MS := E.2.2.2.2.2.2
abbrev tkE (E : EnvR) (i : Nat) : Tk := tks E.1 E.2.1 i
abbrev TC (E : EnvR) (S : CS) (i : Nat) : Prop := TkC E.1 E.2.1 E.2.2.1 S i
abbrev FC (E : EnvR) (S : CS) : Prop := eqC (xF (eD E)) (eS E) S
abbrev FM (E : EnvR) (M : MS) : Prop := eqC (yF (eB E)) (eM E) M
def Ew (E : EnvR) : Prop := (eD E = 7 ∨ eD E = 124) ∧ eB E ≤ 1 ∧ gI (eM E) 0 12 = nI (1 - eB E) ∧ E.2.1 ≤ 480
abbrev Lv (E : EnvR) (P : Nat → Nat) (S : CS) (M : MS) (i : Nat) : Prop := (TC E S i) ∧ (FC E S) ∧ (FM E M) ∧ (Dr (eD E) (eB E) P S M) ∧ (TxM E.1 E.2.1 M) ∧ ((tkE E i).1 ≠ 63) ∧ (gI M 0 7 = 0) ∧ (Cur M (tkE E i))
theorem Lv.tc {E : EnvR} {P : Nat → Nat} {S : CS} {M : MS} {i : Nat} (zh : Lv E P S M i) : TC E S i := zh.1
theorem Lv.fc {E : EnvR} {P : Nat → Nat} {S : CS} {M : MS} {i : Nat} (zh : Lv E P S M i) : FC E S := zh.2.1
theorem Lv.fm {E : EnvR} {P : Nat → Nat} {S : CS} {M : MS} {i : Nat} (zh : Lv E P S M i) : FM E M := zh.2.2.1
theorem Lv.dr {E : EnvR} {P : Nat → Nat} {S : CS} {M : MS} {i : Nat} (zh : Lv E P S M i) : Dr (eD E) (eB E) P S M := zh.2.2.2.1
theorem Lv.tm {E : EnvR} {P : Nat → Nat} {S : CS} {M : MS} {i : Nat} (zh : Lv E P S M i) : TxM E.1 E.2.1 M := zh.2.2.2.2.1
theorem Lv.ne {E : EnvR} {P : Nat → Nat} {S : CS} {M : MS} {i : Nat} (zh : Lv E P S M i) : (tkE E i).1 ≠ 63 := zh.2.2.2.2.2.1
theorem Lv.ok {E : EnvR} {P : Nat → Nat} {S : CS} {M : MS} {i : Nat} (zh : Lv E P S M i) : gI M 0 7 = 0 := zh.2.2.2.2.2.2.1
theorem Lv.cu {E : EnvR} {P : Nat → Nat} {S : CS} {M : MS} {i : Nat} (zh : Lv E P S M i) : Cur M (tkE E i) := zh.2.2.2.2.2.2.2
abbrev Li (E : EnvR) (P : Nat → Nat) (S : CS) (M : MS) (i : Nat) : Prop := (TC E S i) ∧ (FC E S) ∧ (FM E M) ∧ (DC (eD E) P S) ∧ ((tkE E i).1 = 63) ∧ (gI M 0 7 = 1) ∧ (gI M 0 8 = nI (tkE E i).2.1)
theorem Li.tc {E : EnvR} {P : Nat → Nat} {S : CS} {M : MS} {i : Nat} (zh : Li E P S M i) : TC E S i := zh.1
theorem Li.fc {E : EnvR} {P : Nat → Nat} {S : CS} {M : MS} {i : Nat} (zh : Li E P S M i) : FC E S := zh.2.1
theorem Li.fm {E : EnvR} {P : Nat → Nat} {S : CS} {M : MS} {i : Nat} (zh : Li E P S M i) : FM E M := zh.2.2.1
theorem Li.dc {E : EnvR} {P : Nat → Nat} {S : CS} {M : MS} {i : Nat} (zh : Li E P S M i) : DC (eD E) P S := zh.2.2.2.1
theorem Li.is {E : EnvR} {P : Nat → Nat} {S : CS} {M : MS} {i : Nat} (zh : Li E P S M i) : (tkE E i).1 = 63 := zh.2.2.2.2.1
theorem Li.b1 {E : EnvR} {P : Nat → Nat} {S : CS} {M : MS} {i : Nat} (zh : Li E P S M i) : gI M 0 7 = 1 := zh.2.2.2.2.2.1
theorem Li.pl {E : EnvR} {P : Nat → Nat} {S : CS} {M : MS} {i : Nat} (zh : Li E P S M i) : gI M 0 8 = nI (tkE E i).2.1 := zh.2.2.2.2.2.2
abbrev AL (E : EnvR) (P : Nat → Nat) (S : CS) (M : MS) (i : Nat) : Prop := Lv E P S M i ∨ Li E P S M i
def Bd (E : EnvR) (S : CS) (M : MS) : Prop := ∃ i, TC E S i ∧ FC E S ∧ FM E M ∧ gI S 2 2 = gI M 0 7 ∧ gI M 0 7 ≠ 0 ∧ gI M 0 8 = nI (tkE E i).2.1
def mF (M : MS) (k : Int32) : MS := pI (pI M 0 8 (gI M 0 3)) 0 7 k
section RD
variable {E : EnvR} {P : Nat → Nat} {S S' : CS} {M M' : MS} {i : Nat}
theorem tkA_so {tx : Nat → Nat} {len q : Nat} : (tkA tx len q).1 < 127 ∧ ((tkA tx len q).1 ≠ 97 → (tkA tx len q).2.2.2.1 = 0) := by
  unfold tkA
  by_cases h1 : q < len
  · rw [if_pos h1]
    by_cases h2 : isL (tx q) = true
    · rw [if_pos h2]
      show wS _ < 127 ∧ (wS _ ≠ 97 → w7 _ = 0)
      unfold wS w7
      by_cases h3 : (rnW tx len (len - q) q []).length ≤ 9
      · rw [if_pos h3]
        exact ⟨by omega, fun z => absurd rfl z⟩
      · rw [if_neg h3, if_neg h3]
        exact ⟨by omega, fun _ => rfl⟩
    · rw [if_neg h2]
      refine ⟨?_, fun _ => rfl⟩
      show (if isG (tx q) = true then tx q else 63) < 127
      by_cases h3 : isG (tx q) = true
      · rw [if_pos h3]
        unfold isG at h3
        simp only [Bool.or_eq_true, decide_eq_true_eq] at h3
        omega
      · rw [if_neg h3]; omega
  · rw [if_neg h1]
    exact ⟨by show 32 < 127; omega, fun _ => rfl⟩
theorem tk_so (E : EnvR) (i : Nat) : (tkE E i).1 < 127 ∧ ((tkE E i).1 ≠ 97 → (tkE E i).2.2.2.1 = 0) := by
  cases i with
  | zero => exact tkA_so
  | succ i => exact tkA_so
theorem nxD {d m k j : Nat} (h : d = 7 ∨ d = 124) (h1 : k < 7) (h2 : ¬ (k = 2 ∧ j = 1)) : ¬ xD d m k j := by unfold xD; omega
theorem nxF_t {d : Nat} : ¬ xF d 3 4 := fun g => g (Or.inr (Or.inl ⟨rfl, Or.inr rfl⟩))
theorem nxF_f {d : Nat} : ¬ xF d 2 2 := fun g => g (Or.inl ⟨rfl, by omega, by omega⟩)
theorem nxF_d {d k j : Nat} (h1 : d ≤ k) (h2 : k < d + 117) : ¬ xF d k j := fun g => g (Or.inr (Or.inr (Or.inr ⟨h1, h2⟩)))
/-- the tokens stand elsewhere than the draft -/
theorem TC.w (h : TC E S i) (hf : eqC (fun k j => (k = 3 ∧ (j = 3 ∨ j = 4)) ∨ (4 ≤ k ∧ k ≤ 6)) S S') : TC E S' i := TkC.fr h (fun k j g => ⟨(hf k j g).1, (hf k j g).2.1⟩)
theorem own (hE : Ew E) (h : FM E M) : m_own M = some (nI (eB E)) := by
  unfold m_own
  rw [(h 0 12 (by unfold yF yD; omega)).1, hE.2.2.1]
  have hb := hE.2.1
  rcases (show eB E = 0 ∨ eB E = 1 by omega) with e | e <;> rw [e] <;> rfl
theorem nx_b (h : ¬ gI M 0 7 = 0) : m_next M = some M := by
  unfold m_next
  rw [if_neg h]
theorem is_b {x : Int32} (h : ¬ gI M 0 7 = 0) : m_is x M = some false := by
  unfold m_is
  rw [if_neg h]
theorem pa_b {x : Int32} (h : ¬ gI M 0 7 = 0) : m_passes x M = some (M, false) := by
  unfold m_passes
  rw [is_b h, Option.bind_some, if_neg Bool.false_ne_true]
theorem mu_b {x : Int32} (h : ¬ gI M 0 7 = 0) : m_must x M = some M := by
  unfold m_must
  rw [pa_b h, Option.bind_some, if_neg Bool.false_ne_true, fail_1 h, Option.bind_some]
theorem in_b (h : ¬ gI M 0 7 = 0) : m_isName M = some (M, false) := by
  unfold m_isName m_isName_J13
  rw [fail_1 h, Option.bind_some, if_neg h]
  split <;> rfl
theorem Li.nb (h : Li E P S M i) : ¬ gI M 0 7 = 0 := by rw [h.b1]; decide
theorem Bd.nb (h : Bd E S M) : ¬ gI M 0 7 = 0 := by
  obtain ⟨i, -, -, -, -, h, -⟩ := h
  exact h
theorem Bd.m (h : Bd E S M) (h1 : gI M' 0 7 = gI M 0 7) (h2 : gI M' 0 8 = gI M 0 8) (h3 : eqC (yF (eB E)) M M') : Bd E S M' := by
  obtain ⟨i, g1, g2, g3, g4, g5, g6⟩ := h
  exact ⟨i, g1, g2, g3.tr h3, g4.trans h1.symm, fun z => g5 (h1.symm.trans z), h2.trans g6⟩
theorem tc_f (h : TC E S i) (k : Int32) : TC E (pI S 2 2 k) i := h.w ((eqC.rf _ _).I _ (by omega))
theorem rf_lv (h : Lv E P S M i) {k : Int32} (hk : k ≠ 0) : m_fail k M = some (mF M k) ∧ Bd E (pI S 2 2 k) (mF M k) := by
  refine ⟨fail_0 h.ok, i, tc_f h.tc k, h.fc.I _ nxF_f, (h.fm.I _ (nf_r (by omega))).I _ (nf_r (by omega)), ?_, ?_, ?_⟩
  · unfold mF
    rw [gI_same, gI_same]
  · unfold mF
    rw [gI_same]; exact hk
  · unfold mF
    (repeat (first | rw [gI_same] | rw [gI_other _ _ (by omega)] | rw [gI_pL] | rw [gI_pB] | rw [gI_pR]))
    exact h.cu.1
theorem rf_li (h : Li E P S M i) : Bd E (pI S 2 2 1) M :=
  ⟨i, tc_f h.tc 1, h.fc.I _ nxF_f, h.fm, by rw [gI_same, h.b1], h.nb, h.pl⟩
theorem mF_b {k : Int32} (hk : k ≠ 0) : ¬ gI (mF M k) 0 7 = 0 := by
  unfold mF
  rw [gI_same]; exact hk
theorem in_y (h : Lv E P S M i) (hs : (tkE E i).1 = 97) : m_isName M = some (M, true) := by
  unfold m_isName m_isName_J13
  rw [if_pos (h.cu.2.2.2.1 hs).1, if_pos h.ok]
theorem sort_ne (h : Lv E P S M i) (hs : (tkE E i).1 ≠ 97) : ¬ gI M 0 5 = 1 := by
  by_cases h32 : (tkE E i).1 = 32
  · rw [h.cu.2.2.1 h32]; decide
  · rw [(h.cu.2.2.2.2 h32 hs).1]; decide
theorem in_n (h : Lv E P S M i) (hs : (tkE E i).1 ≠ 97) : m_isName M = some (mF M 1, false) := by
  unfold m_isName m_isName_J13
  rw [if_neg (sort_ne h hs), fail_0 h.ok, Option.bind_some]
  rw [if_neg (show ¬ gI (pI (pI M 0 8 (gI M 0 3)) 0 7 1) 0 7 = 0 by rw [gI_same]; decide)]
  rfl
theorem is_m (h : Lv E P S M i) {c : Nat} (hc : c < 127) (h1 : c ≠ 32) (h2 : c ≠ 97) : m_is (nI c) M = some (decide ((tkE E i).1 = c)) := by
  unfold m_is
  rw [if_pos h.ok]
  have hlt := (tk_so E i).1
  by_cases h32 : (tkE E i).1 = 32
  · rw [if_neg (by rw [h.cu.2.2.1 h32]; decide), h32, decide_eq_false (fun z => h1 z.symm)]
  · by_cases h97 : (tkE E i).1 = 97
    · rw [if_neg (by rw [(h.cu.2.2.2.1 h97).1]; decide), h97, decide_eq_false (fun z => h2 z.symm)]
    · obtain ⟨g1, g2⟩ := h.cu.2.2.2.2 h32 h97
      rw [if_pos g1, g2]
      by_cases e : (tkE E i).1 = c
      · rw [if_pos (by rw [e]), decide_eq_true e]
      · rw [if_neg (fun z => e ((nI_eq (by omega) (by omega)).mp z)), decide_eq_false e]
theorem adv (h : Lv E P S M i) (hne : (tkE E i).1 ≠ 32) : ∃ M', m_next M = some M' ∧ cTokens_advance S = some (pI S 3 4 (nI (i + 1))) ∧ eqC yTk M M' ∧ AL E P (pI S 3 4 (nI (i + 1))) M' (i + 1) := by
  obtain ⟨g1, g2, g3⟩ := adv_c h.tc hne
  obtain ⟨M', e1, e2, e3⟩ := nxt_m h.tm h.ok h.cu
  have hd := h.dr.hd.1
  have fc' : FC E (pI S 3 4 (nI (i + 1))) := h.fc.I _ nxF_t
  have fm' : FM E M' := h.fm.tr (e2.mono (fun k j g => yF_tk g))
  have dr' : Dr (eD E) (eB E) P (pI S 3 4 (nI (i + 1))) M' := h.dr.fr ((eqC.rf _ _).I _ (nxD hd (by omega) (by omega))) (e2.mono (fun k j g => yD_tk g))
  refine ⟨M', e1, g2, e2, ?_⟩
  rcases e3.2 with ⟨a1, a2, a3⟩ | ⟨a1, a2, a3⟩
  · exact Or.inl ⟨g3, fc', fm', dr', e3.1, a1, a2, a3⟩
  · exact Or.inr ⟨g3, fc', fm', dr'.dc, a1, a2, a3⟩
theorem isc (h : TC E S i) {c : Nat} (hc : c < 127) : cTokens_is (nI c) S = some (decide ((tkE E i).1 = c)) := is_c h c (by omega) (Nat.lt_trans (tk_so E i).1 (by omega))
theorem sk (h : AL E P S M i) {x : Int32} {c : Nat} (hx : x = nI c) (hc : c < 127) (h1 : c ≠ 32) (h2 : c ≠ 97) (h3 : c ≠ 63) : ∃ S' M' f, cTokens_skip x S = some (S', f) ∧ m_passes x M = some (M', f) ∧ ((f = false ∧ S' = S ∧ M' = M ∧ (tkE E i).1 ≠ c) ∨ (f = true ∧ (tkE E i).1 = c ∧ Lv E P S M i ∧ S' = pI S 3 4 (nI (i + 1)) ∧ eqC yTk M M' ∧ AL E P S' M' (i + 1))) := by
  subst hx
  unfold cTokens_skip m_passes
  rcases h with h | h
  · rw [isc h.tc hc, is_m h hc h1 h2, Option.bind_some, Option.bind_some]
    by_cases e : (tkE E i).1 = c
    · obtain ⟨M', e1, e2, e3, e4⟩ := adv h (by rw [e]; exact h1)
      rw [decide_eq_true e, if_pos rfl, if_pos rfl, e1, e2, Option.bind_some, Option.bind_some]
      exact ⟨_, _, _, rfl, rfl, Or.inr ⟨rfl, e, h, rfl, e3, e4⟩⟩
    · rw [decide_eq_false e, if_neg Bool.false_ne_true, if_neg Bool.false_ne_true]
      exact ⟨_, _, _, rfl, rfl, Or.inl ⟨rfl, rfl, rfl, e⟩⟩
  · have e : (tkE E i).1 ≠ c := by rw [h.is]; exact fun z => h3 z.symm
    rw [isc h.tc hc, is_b h.nb, Option.bind_some, Option.bind_some, decide_eq_false e, if_neg Bool.false_ne_true, if_neg Bool.false_ne_true]
    exact ⟨_, _, _, rfl, rfl, Or.inl ⟨rfl, rfl, rfl, e⟩⟩
theorem ex (h : AL E P S M i) {x : Int32} {c : Nat} (hx : x = nI c) (hc : c < 127) (h1 : c ≠ 32) (h2 : c ≠ 97) (h3 : c ≠ 63) : ∃ S' M' f, cReader_expect x S = some (S', f) ∧ m_must x M = some M' ∧ ((f = true ∧ (tkE E i).1 = c ∧ Lv E P S M i ∧ S' = pI S 3 4 (nI (i + 1)) ∧ eqC yTk M M' ∧ AL E P S' M' (i + 1)) ∨ (f = false ∧ Bd E S' M')) := by
  unfold cReader_expect m_must cReader_refuse
  obtain ⟨S', M', f, e1, e2, e3⟩ := sk h hx hc h1 h2 h3
  rw [e1, e2, Option.bind_some, Option.bind_some]
  rcases e3 with ⟨rfl, rfl, rfl, g⟩ | ⟨rfl, g1, g2, g3, g4, g5⟩
  · simp only [Bool.false_eq_true, if_false, bd, Option.bind_some]
    rcases h with h | h
    · obtain ⟨r1, r2⟩ := rf_lv h (k := 1) (by decide)
      rw [r1, Option.bind_some]
      exact ⟨_, _, _, rfl, rfl, Or.inr ⟨rfl, r2⟩⟩
    · rw [fail_1 h.nb, Option.bind_some]
      exact ⟨_, _, _, rfl, rfl, Or.inr ⟨rfl, rf_li h⟩⟩
  · simp only [if_true]
    exact ⟨_, _, _, rfl, rfl, Or.inl ⟨rfl, g1, g2, g3, g4, g5⟩⟩
/-- the name of the token, on both sides -/
theorem nmE (h : TC E S i) : cTokens_name S = some (tkE E i).2.2.2.1 := nm_tk h
theorem nm0 (h : Lv E P S M i) (hs : (tkE E i).1 ≠ 97) : cTokens_name S = some 0 := by rw [nmE h.tc, (tk_so E i).2 hs]
theorem Li.n0 (h : Li E P S M i) : cTokens_name S = some 0 := by rw [nmE h.tc, (tk_so E i).2 (by rw [h.is]; decide)]
theorem plE (h : TC E S i) : cTokens_place S = some (nI (tkE E i).2.1) := pl_tk h
theorem nh_n (hc : DC (eD E) P S) (ht : TC E S i) (hs : (tkE E i).1 ≠ 97) {w k : Nat} (hw : w < 4) (hk : k = eD E + 1 + 2 * w) : cReader_numberHere k S = some (pI S 2 2 1, -1) := by
  unfold cReader_numberHere cReader_numberHere_J35 cReader_refuse
  rw [nmE ht, Option.bind_some, (tk_so E i).2 hs, hk, hc.n0 hw, Option.bind_some, if_pos rfl, show (97 : Int32) = nI 97 from rfl, isc ht (by omega), Option.bind_some, decide_eq_false hs]
  simp only [Bool.false_eq_true, if_false, bd, Option.bind_some]
theorem nh_y (h : Lv E P S M i) (hs : (tkE E i).1 = 97) {w k : Nat} (hw : w < 4) (hk : k = eD E + 1 + 2 * w) : ∃ r : Int32, m_find (mc w) (nI (lim w * eB E)) (nI (P w)) (gL M 0 11) M = some r ∧ ((r = -1 ∧ cReader_numberHere k S = some (pI S 2 2 2, -1)) ∨ ∃ j, j < P w ∧ r = nI j ∧ cReader_numberHere k S = some (pI S 3 4 (nI (i + 1)), nI j)) := by
  obtain ⟨-, y1, y2⟩ := h.cu.2.2.2.1 hs
  obtain ⟨r, e1, e2, e3⟩ := h.dr.lk hw y2
  refine ⟨r, by rw [y1]; exact e2, ?_⟩
  unfold cReader_numberHere cReader_numberHere_J35 cReader_refuse
  rw [nmE h.tc, Option.bind_some, hk, e1, Option.bind_some]
  rcases e3 with rfl | ⟨j, hj, rfl⟩
  · refine Or.inl ⟨rfl, ?_⟩
    rw [if_pos rfl, show (97 : Int32) = nI 97 from rfl, isc h.tc (by omega), Option.bind_some, decide_eq_true hs]
    simp only [if_true, bd, Option.bind_some]
  · refine Or.inr ⟨j, hj, rfl, ?_⟩
    have hl := h.dr.lm.1 w hw
    have := lim_le w
    rw [if_neg (ne_m1 (show j < 2 ^ 31 by omega)), (adv_c h.tc (by rw [hs]; decide)).2.1, Option.bind_some]
end RD
