/-! statement by statement -/
theorem swv : ∀ w, w < 15 → swm (nI w) = nI (if w = 8 then 5 else if w = 9 then 6 else if w = 10 then 7 else if w ≤ 4 then w else 0) := by decide +kernel
theorem tkA_32 {tx : Nat → Nat} {len q : Nat} (hq : q ≤ len) (h : (tkA tx len q).1 ≠ 32) : q < len := by
  rcases Nat.lt_or_ge q len with g | g
  · exact g
  · unfold tkA at h
    rw [if_neg (by omega)] at h
    exact absurd rfl h
theorem tk_at (tx : Nat → Nat) (len i : Nat) : ∃ q, q ≤ len ∧ tks tx len i = tkA tx len q := by
  cases i with
  | zero => exact ⟨_, (skp_le tx len (len - 0) 0 (Nat.zero_le _)).2, rfl⟩
  | succ i => exact ⟨_, (skp_le tx len (len - (tks tx len i).2.2.1) (tks tx len i).2.2.1 (tks_stp i).2).2, rfl⟩
theorem pls {tx : Nat → Nat} {len i : Nat} (h : (tks tx len i).1 ≠ 32) : (tks tx len i).2.1 < (tks tx len (i + 1)).2.1 := by
  obtain ⟨q, hq, e⟩ := tk_at tx len i
  have h0 := (tks_stp (tx := tx) (len := len) i).2
  have h1 := skp_le tx len (len - (tks tx len i).2.2.1) (tks tx len i).2.2.1 h0
  have h2 := tkA_stp (tx := tx) (len := len) (q := skp tx len (len - (tks tx len i).2.2.1) (tks tx len i).2.2.1) h1.2
  have h3 : (tks tx len (i + 1)).2.1 = skp tx len (len - (tks tx len i).2.2.1) (tks tx len i).2.2.1 := h2.2.2.1
  rw [e] at h
  have h4 := tkA_stp (tx := tx) (len := len) (q := q) hq
  have h5 := h4.2.2.2 (tkA_32 hq h)
  rw [h3]
  have h6 : (tks tx len i).2.1 = q := by rw [e]; exact h4.2.2.1
  have h7 : q < (tks tx len i).2.2.1 := by rw [e]; exact h5
  omega
section LOP
variable {E : EnvR} {P : Nat → Nat} {S S' S0 : CS} {M M' M'' : MS} {i k r d b : Nat} {X Y : CS → MS → Prop} {Q2 : CS → MS → Prop}
theorem pl_lt (h : TC E S i) : ∀ n j, j + n + 1 = i → (tkE E j).2.1 < (tkE E i).2.1 := by
  intro n
  induction n with
  | zero =>
    intro j hj
    have := h.ne j (by have := h.lt; omega)
    have := pls this
    rw [show i = j + 1 by omega]
    exact this
  | succ n ih =>
    intro j hj
    have h1 := pls (h.ne j (by have := h.lt; omega))
    have h2 := ih (j + 1) (by omega)
    exact Nat.lt_trans h1 h2
theorem pl_lt' (h : TC E S i) {j : Nat} (hj : j < i) : (tkE E j).2.1 < (tkE E i).2.1 := pl_lt h (i - j - 1) j (by omega)
/-- the condition, and where the rules stand -/
def Xc (E : EnvR) (cnd : Int32) (be : Bool) (m : Nat) (pl : Nat → Nat) : CS → MS → Prop := fun S _ => gI S 2 4 = cnd ∧ (¬ cnd = -1 → gB S 2 5 = be) ∧ (∀ j, j < m → gI S (eD E + 21 + 4 * j) 1 = nI (pl j)) ∧ gI S 2 2 = 0 ∧ gI S 2 3 = -1
def Po (E : EnvR) (m : Nat) (pl : Nat → Nat) (i : Nat) : Prop := (∀ j j', j < j' → j' < m → pl j < pl j') ∧ ∀ j, j < m → pl j < (tkE E i).2.1
theorem Po.go {m : Nat} {pl : Nat → Nat} {i' : Nat} (h : Po E m pl i) (ht : TC E S i') (hi : i ≤ i') : Po E m pl i' := by
  refine ⟨h.1, fun j hj => ?_⟩
  have := h.2 j hj
  rcases Nat.lt_or_ge i i' with g | g
  · exact Nat.lt_trans this (pl_lt' ht g)
  · rw [show i' = i by omega]; exact this
theorem Po.rl {m : Nat} {pl : Nat → Nat} {i' : Nat} (h : Po E m pl i) (ht : TC E S i') (hi : i < i') : Po E (m + 1) (up pl m (tkE E i).2.1) i' := by
  have hlt := pl_lt' ht hi
  refine ⟨fun j j' h1 h2 => ?_, fun j hj => ?_⟩
  · rw [up_ne (show j ≠ m by omega)]
    by_cases e : j' = m
    · rw [e, up_eq]
      exact h.2 j (by omega)
    · rw [up_ne e]
      exact h.1 j j' h1 (by omega)
  · by_cases e : j = m
    · rw [e, up_eq]; exact hlt
    · rw [up_ne e]
      exact Nat.lt_trans (h.2 j (by omega)) hlt
theorem Xc.n {cnd : Int32} {be : Bool} {m : Nat} {pl : Nat → Nat} (hd : eD E = 7 ∨ eD E = 124) : Sta (xN (eD E)) (yN (eB E)) (Xc E cnd be m pl) := fun S M S' M' g e1 e2 => ⟨(e1 2 4 ⟨by omega, by omega⟩).1.trans g.1, fun z => (e1 2 5 ⟨by omega, by omega⟩).2.2.2.trans (g.2.1 z), fun j hj => (e1 _ _ ⟨by omega, by omega⟩).1.trans (g.2.2.1 j hj), (e1 2 2 ⟨by omega, by omega⟩).1.trans g.2.2.2.1, (e1 2 3 ⟨by omega, by omega⟩).1.trans g.2.2.2.2⟩
theorem Xc.u {cnd : Int32} {be : Bool} {m : Nat} {pl : Nat → Nat} (hd : eD E = 7 ∨ eD E = 124) : Sta (xU (eD E) m) (yU (eB E) m) (Xc E cnd be m pl) := fun S M S' M' g e1 e2 => ⟨(e1 2 4 ⟨by omega, by omega, by omega⟩).1.trans g.1, fun z => (e1 2 5 ⟨by omega, by omega, by omega⟩).2.2.2.trans (g.2.1 z), fun j hj => (e1 _ _ ⟨by omega, by omega, by omega⟩).1.trans (g.2.2.1 j hj), (e1 2 2 ⟨by omega, by omega, by omega⟩).1.trans g.2.2.2.1, (e1 2 3 ⟨by omega, by omega, by omega⟩).1.trans g.2.2.2.2⟩
theorem Xc.a {cnd : Int32} {be : Bool} {m p : Nat} {pl : Nat → Nat} (h : Xc E cnd be m pl S M) (hp : gI S (eD E + 21 + 4 * m) 1 = nI p) : Xc E cnd be (m + 1) (up pl m p) S M := by
  refine ⟨h.1, h.2.1, fun j hj => ?_, h.2.2.2⟩
  by_cases e : j = m
  · rw [e, up_eq]; exact hp
  · rw [up_ne e]; exact h.2.2.1 j (by omega)
def EndOk (E : EnvR) (S : CS) (M : MS) : Prop := ∃ P i pl, Lv E P S M i ∧ Pc P ∧ Po E (P 4) pl i ∧ (∀ j, j < P 4 → gI S (eD E + 21 + 4 * j) 1 = nI (pl j)) ∧ gI S 2 2 = 0 ∧ gI S 2 3 = -1
def LO (E : EnvR) (x : Option (CS × Bool)) (y : Option (MS × Int32)) : Prop := (∃ S M, Bd E S M ∧ x = some (pI S 2 3 (gI M 0 8), false) ∧ y = m_load_J62 M) ∨ (∃ S M, EndOk E S M ∧ x = cReader_read_J73 S ∧ y = m_load_J62 M)
theorem l41b {g : Nat} (hg : 0 < g) (h : ¬ gI M 0 7 = 0) : m_load_L41 g M = m_load_J62 M := by
  obtain ⟨g, rfl⟩ := Nat.exists_eq_add_of_lt hg
  rw [Nat.zero_add, m_load_L41, if_neg h]
theorem LO.bad (h : Bd E S M) {y : Option (MS × Int32)} (hy : y = m_load_J62 M) : LO E ((cTokens_place S).bind fun q59 => bd (pI S 2 3 q59) fun S62 => some (S62, false)) y := by
  obtain ⟨i, g1, g2, g3, g4, g5, g6⟩ := id h
  refine Or.inl ⟨S, M, h, ?_, hy⟩
  rw [plE g1, Option.bind_some, g6]
  rfl
/-- one round of the class's loop against a stretch of the reference's -/
theorem Ou.lo {Q : CS → MS → Prop} {x : Option (CS × Bool)} {y : Option MS} {f n : Nat} {K : MS → Option (MS × Int32)} (h : Ou E Q x y) (hb : ∀ M, ¬ gI M 0 7 = 0 → FM E M → ∃ M', K M = m_load_J62 M' ∧ MB E M M') (hQ : ∀ S' M', Q S' M' → LO E (cReader_read_L33 f (nI (n + 1)) S') (K M')) : LO E (x.bind fun q48 => (if q48.2 = true then (bd (nI n + 1) fun a67 => cReader_read_L33 f a67 q48.1) else ((cTokens_place q48.1).bind fun q59 => (bd (pI q48.1 2 3 q59) fun S62 => some (S62, false))))) (y.bind K) := by
  obtain ⟨S', M', fl, e1, e2, e3⟩ := h
  rw [e1, e2, Option.bind_some, Option.bind_some]
  dsimp only
  rcases e3 with ⟨rfl, e3⟩ | ⟨rfl, e3⟩
  · rw [if_pos rfl]
    simp only [bd]
    rw [nI_1]
    exact hQ _ _ e3
  · rw [if_neg Bool.false_ne_true]
    obtain ⟨M'', k1, k2⟩ := hb M' e3.nb e3.fm
    exact LO.bad (e3.mb k2) k1
theorem wd_E (h : TC E S i) : cTokens_word S = (cWord_of (tkE E i).2.2.2.1).bind fun q => (if q < 15 then some q else none) := by
  have hn := nmE h
  unfold cTokens_name at hn
  unfold cTokens_word
  by_cases g : inbd (gI S 3 4) 481 = true
  · rw [if_pos g] at hn ⊢
    rw [Option.some.inj hn]
  · rw [if_neg g] at hn
    exact absurd hn (by simp)
theorem wd_0 (h : TC E S i) (hs : (tkE E i).1 ≠ 97) : cTokens_word S = some 0 := by
  rw [wd_E h, (tk_so E i).2 hs, wo_0, Option.bind_some]
  rfl
theorem eob_n (h : TC E S i) (hs : (tkE E i).1 ≠ 125) : cReader_readEndOfBlock S = some (pI S 2 2 1, false) := by
  unfold cReader_readEndOfBlock cReader_expect cReader_refuse cTokens_skip
  rw [show cTokens_is 125 S = some (decide ((tkE E i).1 = 125)) from isc h (c := 125) (by omega), decide_eq_false hs]
  rfl
theorem li_st (h : Li E P S M i) : cReader_isDone S = some false ∧ cReader_readStatement S = some (pI S 2 2 1, false) := by
  have hs : (tkE E i).1 ≠ 97 := by rw [h.is]; decide
  constructor
  · unfold cReader_isDone
    rw [show cTokens_is 32 S = some (decide ((tkE E i).1 = 32)) from isc h.tc (c := 32) (by omega), decide_eq_false (by rw [h.is]; decide)]
    split <;> rfl
  · unfold cReader_readStatement
    rw [wd_0 h.tc hs, Option.bind_some, if_pos (by omega), if_neg (by omega), if_neg (by omega), if_neg (by omega), eob_n h.tc (by rw [h.is]; decide)]
    split
    · rfl
    · rfl
theorem dn_b {n : Nat} (hn : n ≤ 480) {f : Nat} (hd : cReader_isDone S = some false) : cReader_read_L33 (f + 1) (nI n) S = ((cReader_readStatement S).bind fun q48 => (if q48.2 = true then (bd (nI n + 1) fun a67 => cReader_read_L33 f a67 q48.1) else ((cTokens_place q48.1).bind fun q59 => (bd (pI q48.1 2 3 q59) fun S62 => some (S62, false))))) := by
  rw [cReader_read_L33, if_neg (show ¬ (480 : Int32) < nI n from nI_nlt (a := 480) hn (by omega)), hd, Option.bind_some, if_neg Bool.false_ne_true]
theorem rs69 (h : ¬ gI M 0 7 = 0) : m_readSide_J69 M = some M := by
  unfold m_readSide_J69
  rw [mu_b h, Option.bind_some]
theorem rs6 {v : Int32} {fl : Bool} {g : Nat} (hg : 0 < g) (h : ¬ gI M 0 7 = 0) : m_readSide_L6 v fl g M = some M := by
  obtain ⟨g, rfl⟩ := Nat.exists_eq_add_of_lt hg
  rw [Nat.zero_add, m_readSide_L6, if_neg h, rs69 h]
theorem rsd {v : Int32} {fl : Bool} (h : ¬ gI M 0 7 = 0) : m_readSide v fl M = some M := by
  unfold m_readSide
  rw [mu_b h, Option.bind_some, rs6 (by omega) h]
theorem rf94 (h : ¬ gI M 0 7 = 0) : m_readIf_J94 M = some M := by
  unfold m_readIf_J94
  rw [mu_b h, Option.bind_some]
def KS (be : Bool) (c : Int32) (q55 : MS) : Option MS := if be = true then m_readIf_J94 q55 else (if (gI q55 0 7) = 0 then (if (gI q55 0 5) = 1 then (if (gL q55 0 11) = 1361093 then ((m_next q55).bind fun q85 => ((m_readSide c false q85).bind fun q91 => m_readIf_J94 q91)) else m_readIf_J94 q55) else m_readIf_J94 q55) else m_readIf_J94 q55)
theorem KS_b {be : Bool} {c : Int32} (h : ¬ gI M 0 7 = 0) : KS be c M = some M := by
  unfold KS
  rw [rf94 h, if_neg h]
  split <;> rfl
theorem if48 {c : Int32} : m_readIf_J48 c M = (m_next M).bind fun q49 => (m_readSide c true q49).bind (KS false c) := by
  unfold m_readIf_J48
  cases m_next M with
  | none => rw [Option.bind_none, Option.bind_none]
  | some q =>
    rw [Option.bind_some, Option.bind_some]
    cases m_readSide c true q with
    | none => rw [Option.bind_none, Option.bind_none]
    | some q2 =>
      rw [Option.bind_some, Option.bind_some]
      unfold KS
      rw [if_neg Bool.false_ne_true]
theorem rif_b {c : Int32} (h : ¬ gI M 0 7 = 0) : m_readIf_J48 c M = some M := by
  rw [if48, nx_b h, Option.bind_some, rsd h, Option.bind_some, KS_b h]
end LOP
