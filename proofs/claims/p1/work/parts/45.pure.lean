section VE2
variable {S S' : CS} {M M' : MS} {o : Nat → Int64} {m β nt nc nb nr : Nat}
theorem S_5 (h : Rl S M m) (hm : m + 2 ≤ 1024) (a1 a2 a3 a4 : Int32) : Nx m (st_5 a1 a2 a3 a4 (S, M, o)) := by
  have hr : ∀ v, Rl S (pI M 0 0 v) (m + 2) := h.th (by omega) (by omega)
  obtain ⟨β, nt, nc, nb, nr, hB, hP⟩ := h.po
  have hl := hP.lim
  have g1 : gI (pI M 0 0 1) 0 0 = 1 := gI_same _ _ _ _
  have g0 : gI (pI M 0 0 0) 0 0 = 0 := gI_same _ _ _ _
  have hfail : cG_vector a1 a2 a3 a4 S = some (S, 1, 0) → m_vector a1 a2 a3 a4 M = some (pI M 0 0 1, 0) → Nx m (st_5 a1 a2 a3 a4 (S, M, o)) := by
    intro e1 e2
    unfold st_5 w_vector
    simp only [e1, e2, Option.bind_some, show ¬ (1 : Nat) = 0 by decide, show ¬ (1 : Nat) = 2 by decide, if_false, m_thrown, g1, if_true, show ¬ (1 : Int32) = 0 by decide]
    exact wpo_some.mpr (hr _)
  have hok : ∀ v : Int32, cG_vector a1 a2 a3 a4 S = some (S, 0, v) → m_vector a1 a2 a3 a4 M = some (pI M 0 0 0, v) → Nx m (st_5 a1 a2 a3 a4 (S, M, o)) := by
    intro v e1 e2
    unfold st_5 w_vector
    simp only [e1, e2, Option.bind_some, m_thrown, g0, if_true, va_up]
    exact wpo_some.mpr (hr _)
  by_cases c1 : a1 < 0
  · refine hfail ?_ ?_
    · unfold cG_vector cG_vector_J20
      rw [if_pos c1]
    · unfold m_vector m_vector_J34 m_give
      rw [if_pos c1]
      rfl
  by_cases c2 : (2 : Int32) < a1
  · refine hfail ?_ ?_
    · unfold cG_vector cG_vector_J20
      rw [if_neg c1, if_pos c2]
    · unfold m_vector m_vector_J34 m_give
      rw [if_neg c1, if_pos c2]
      rfl
  have hC : cG_vector a1 a2 a3 a4 S = (if (isNum nt a2 && isNum nt a3 && isNum nc a4) = true then (if a1 = 0 then ((cPolicy_permissionsBy (pcl β) 5 a2 a3 a4 S).bind fun q43 => some (S, 0, q43)) else (if a1 = 1 then cG_vector_J65 a2 a3 a4 6 (pcl β) S else cG_vector_J65 a2 a3 a4 7 (pcl β) S)) else some (S, 1, 0)) := by
    unfold cG_vector
    rw [if_neg c1, if_neg c2, kn_eq hB hP, Option.bind_some]
    simp only [bd, hB.2.2.1, pcl_7, if_true, cG_vector_J20]
  have hM : m_vector a1 a2 a3 a4 M = (if (isNum nt a2 && isNum nt a3 && isNum nc a4) = true then ((m_worked a1 a2 a3 a4 M).bind fun q49 => some (pI M 0 0 0, q49)) else some (pI M 0 0 1, 0)) := by
    unfold m_vector m_vector_J34 m_give
    rw [if_neg c1, if_neg c2, isT_m hB hP, Option.bind_some, isT_m hB hP, Option.bind_some, isC_m hB hP, Option.bind_some]
    cases isNum nt a2 <;> cases isNum nt a3 <;> cases isNum nc a4 <;> rfl
  cases hk : (isNum nt a2 && isNum nt a3 && isNum nc a4) with
  | false =>
    rw [hk] at hC hM
    exact hfail hC hM
  | true =>
    rw [hk, if_pos rfl] at hC hM
    rw [Bool.and_eq_true, Bool.and_eq_true] at hk
    obtain ⟨s, hs, rfl⟩ := isNum_t (by omega) hk.1.1
    obtain ⟨t, ht, rfl⟩ := isNum_t (by omega) hk.1.2
    obtain ⟨c, hc, rfl⟩ := isNum_t (by omega) hk.2
    obtain ⟨w, hw, rfl⟩ := nI_of2 (M := 2) (n := 2) (by decide) c1 (Int32.not_lt.mp c2)
    obtain ⟨v, -, e1, e2⟩ := vec_eq hB hP (show w < 3 by omega) hs ht hc
    rw [e2, Option.bind_some] at hM
    refine hok (nI v) ?_ hM
    rw [hC]
    have : w = 0 ∨ w = 1 ∨ w = 2 := by omega
    rcases this with rfl | rfl | rfl
    · have e1' : cPolicy_permissionsBy (pcl β) 5 (nI s) (nI t) (nI c) S = some (nI v) := e1
      rw [if_pos nI_0, e1', Option.bind_some]
    · have e1' : cPolicy_permissionsBy (pcl β) 6 (nI s) (nI t) (nI c) S = some (nI v) := e1
      rw [if_neg (show ¬ nI 1 = 0 by decide), if_pos (show nI 1 = 1 from rfl)]
      unfold cG_vector_J65
      rw [e1', Option.bind_some]
    · have e1' : cPolicy_permissionsBy (pcl β) 7 (nI s) (nI t) (nI c) S = some (nI v) := e1
      rw [if_neg (show ¬ nI 2 = 0 by decide), if_neg (show ¬ nI 2 = 1 by decide)]
      unfold cG_vector_J65
      rw [e1', Option.bind_some]
/-- one rule of the reference's search for a reason -/
theorem why_one (hB : BkR S M β) (hP : PoR S M (pcl β) β nt nc nb nr) {s t c k i : Nat} (hs : s < nt) (ht : t < nt) (hc : c < nc) (hk : k < 8) (hi : i < nr) : ∃ y : Bool, (∀ (g : Nat) (v : Int32), m_why_L43 (nI s) (nI t) (nI c) (nI k) M (g + 1) v (nI (24 * β + i)) = m_why_J140 (m_why_L43 (nI s) (nI t) (nI c) (nI k) M g) (nI s) (nI t) (nI c) (nI k) v (nI (24 * β + i)) y M) ∧
    (∀ (f : Nat), cPolicy_placeOfAllow_L3 (pcl β) (nI s) (nI t) (nI c) (nI k) S (f + 1) (nI i) = if y = true then some (gI S (pcl β + 21 + 4 * i) 1) else cPolicy_placeOfAllow_L3 (pcl β) (nI s) (nI t) (nI c) (nI k) S f (nI (i + 1))) := by
  have hl := hP.lim
  have hβ := hB.1
  have b5 := bk5 (c := 4) hB.1 (by omega)
  have hR := hP.ru i (by omega)
  obtain ⟨kw, hk1, hk2, hk3⟩ := hR.kind
  have hne : ¬ nI nr ≤ nI i := nI_ge (by omega) (by omega)
  have hne2 : ¬ nI (24 * β + nr) ≤ nI (24 * β + i) := nI_ge (by omega) (by omega)
  have i24 : inbd (nI i) 24 = true := inb_nI (by omega) (by omega)
  have i48 : inbd (nI (24 * β + i)) 48 = true := inb_nI (by omega) (by omega)
  have k0 : ¬ nI k < 0 := nI_pos (by omega)
  have k8 : ¬ (8 : Int32) ≤ nI k := nI_ge (b := 8) hk (by omega)
  have M1 : ∀ (g : Nat) (v : Int32), m_why_L43 (nI s) (nI t) (nI c) (nI k) M (g + 1) v (nI (24 * β + i)) = (if (nI kw) = 0 then ((m_isInForce (nI (24 * β + i)) M).bind fun q94 => (if q94 = true then ((m_targetsOf (nI (24 * β + i)) (nI s) M).bind fun q104 => (if ((q104 >>> (nI t &&& 31)) &&& 1) = 1 then (if inbd ((4 * nI (24 * β + i)) + nI c) 192 = true then (if (((gI M 20 (txN ((4 * nI (24 * β + i)) + nI c))) >>> (nI k &&& 31)) &&& 1) = 1 then m_why_J140 (m_why_L43 (nI s) (nI t) (nI c) (nI k) M g) (nI s) (nI t) (nI c) (nI k) v (nI (24 * β + i)) true M else m_why_J140 (m_why_L43 (nI s) (nI t) (nI c) (nI k) M g) (nI s) (nI t) (nI c) (nI k) v (nI (24 * β + i)) false M) else none) else m_why_J140 (m_why_L43 (nI s) (nI t) (nI c) (nI k) M g) (nI s) (nI t) (nI c) (nI k) v (nI (24 * β + i)) false M)) else m_why_J140 (m_why_L43 (nI s) (nI t) (nI c) (nI k) M g) (nI s) (nI t) (nI c) (nI k) v (nI (24 * β + i)) false M)) else m_why_J140 (m_why_L43 (nI s) (nI t) (nI c) (nI k) M g) (nI s) (nI t) (nI c) (nI k) v (nI (24 * β + i)) false M) := by
    intro g v
    rw [m_why_L43, hB.2.1, show (5 : Int32) * nI β + 4 = 5 * nI β + nI 4 from rfl, if_pos b5.1, b5.2, hP.r.2, show (24 : Int32) * nI β = nI (24 * β) from nI_mul 24 β, nI_add, if_neg hne2, if_neg k0, if_neg k8, if_pos i48, tx_nI (show 24 * β + i < 2 ^ 31 by omega), hk3]
    rfl
  have C1 : ∀ (f : Nat), cPolicy_placeOfAllow_L3 (pcl β) (nI s) (nI t) (nI c) (nI k) S (f + 1) (nI i) = (if kw + 5 = 5 then ((cPolicy_permissionsInForce (pcl β) (pcl β + 21 + 4 * i) (nI s) (nI t) (nI c) S).bind fun q38 => ((cG_hasBit q38 (nI k)).bind fun q43 => (if q43 = true then some (gI S (pcl β + 21 + 4 * i) 1) else cPolicy_placeOfAllow_L3 (pcl β) (nI s) (nI t) (nI c) (nI k) S f (nI (i + 1))))) else cPolicy_placeOfAllow_L3 (pcl β) (nI s) (nI t) (nI c) (nI k) S f (nI (i + 1))) := by
    intro f
    rw [cPolicy_placeOfAllow_L3, hP.r.1, if_neg hne, if_pos i24, tx_nI (show i < 2 ^ 31 by omega), show pcl β + 12 + (9 + 4 * i) = pcl β + 21 + 4 * i by omega]
    simp only [bd, hk2, show kw + 5 < 15 by omega, if_true, nI_1]
  by_cases hkw : kw = 0
  · subst hkw
    obtain ⟨fo, f1, f2⟩ := if_eq hB hP (show 24 * β + i < 48 by omega) hR
    obtain ⟨pv, p0, p1, p2, p3⟩ := hR.perm c (by omega)
    have i192 : inbd (4 * nI (24 * β + i) + nI c) 192 = true ∧ txN (4 * nI (24 * β + i) + nI c) = 4 * (24 * β + i) + c := by
      have e : (4 : Int32) * nI (24 * β + i) + nI c = nI (4 * (24 * β + i) + c) := by rw [show (4 : Int32) = nI 4 from rfl, nI_mul, nI_add]
      rw [e]
      exact ⟨inb_nI (by omega) (by omega), tx_nI (by omega)⟩
    rw [i192.2, p2] at M1
    simp only [nI_0, if_true, f1, Option.bind_some, tg_m (show s < 12 by omega) (show 24 * β + i < 48 by omega) hR, i192.1] at M1
    simp only [show 0 + 5 = 5 from rfl, if_true, f2] at C1
    cases fo with
    | false =>
      simp only [Bool.false_eq_true, if_false] at M1
      simp only [cPolicy_permissionsInForce_J29, Bool.false_eq_true, if_false, Option.bind_some, hb_eq _ (show k < 32 by omega), b_0] at C1
      exact ⟨false, M1, fun f => by rw [C1, if_neg (by simp)]⟩
    | true =>
      simp only [if_true] at M1
      simp only [j29 (show s < 12 by omega) (show t < 12 by omega) (show c < 4 by omega), Option.bind_some, hb_eq _ (show k < 32 by omega)] at C1
      cases h2 : bt (tgs S (pcl β + 21 + 4 * i) s) t with
      | false =>
        refine ⟨false, fun g v => ?_, fun f => ?_⟩
        · rw [M1, if_neg (fun z => by rw [bit_s1 _ (show t < 32 by omega), h2] at z; cases z)]
        · rw [C1]
          simp [h2, b_0]
      | true =>
        cases h1 : bt (gI S (pcl β + 21 + 4 * i) 9) c with
        | false =>
          have hv := p3 h1
          subst hv
          refine ⟨false, fun g v => ?_, fun f => ?_⟩
          · rw [M1, if_pos ((bit_s1 _ (show t < 32 by omega)).mpr h2), if_neg (fun z => by rw [bit_s1 _ (show k < 32 by omega), nI_0, b_0] at z; cases z)]
          · rw [C1]
            simp [h1, b_0]
        | true =>
          refine ⟨bt (nI pv) k, fun g v => ?_, fun f => ?_⟩
          · rw [M1, if_pos ((bit_s1 _ (show t < 32 by omega)).mpr h2)]
            cases h3 : bt (nI pv) k with
            | false => rw [if_neg (fun z => by rw [bit_s1 _ (show k < 32 by omega), h3] at z; cases z)]
            | true => rw [if_pos ((bit_s1 _ (show k < 32 by omega)).mpr h3)]
          · rw [C1, if_pos (show bt (gI S (pcl β + 21 + 4 * i) 9) c = true ∧ bt (tgs S (pcl β + 21 + 4 * i) s) t = true from ⟨h1, h2⟩), p1]
  · have hz : ¬ nI kw = 0 := nI_ne0 (by omega) (by omega)
    refine ⟨false, fun g v => by rw [M1, if_neg hz], fun f => by rw [C1, if_neg (by omega), if_neg (by simp)]⟩
end VE2

section WHY
variable {S S' : CS} {M M' : MS} {o : Nat → Int64} {m β nt nc nb nr : Nat}
theorem why_end (hB : BkR S M β) (hP : PoR S M (pcl β) β nt nc nb nr) {s t c k : Nat} (g : Nat) (v : Int32) : m_why_L43 (nI s) (nI t) (nI c) (nI k) M (g + 1) v (nI (24 * β + nr)) = some (pI M 0 0 0, v) := by
  have hl := hP.lim
  have hβ := hB.1
  have b5 := bk5 (c := 4) hB.1 (by omega)
  rw [m_why_L43, hB.2.1, show (5 : Int32) * nI β + 4 = 5 * nI β + nI 4 from rfl, if_pos b5.1, b5.2, hP.r.2, show (24 : Int32) * nI β = nI (24 * β) from nI_mul 24 β, nI_add, if_pos (nI_le (Nat.le_refl _) (by omega))]
  rfl
theorem why_done (hB : BkR S M β) (hP : PoR S M (pcl β) β nt nc nb nr) {s t c k p : Nat} (hp : p ≤ 480) (hs : s < nt) (ht : t < nt) (hc : c < nc) (hk : k < 8) : ∀ q i, i + q = nr → ∀ g, q < g → m_why_L43 (nI s) (nI t) (nI c) (nI k) M g (nI p) (nI (24 * β + i)) = some (pI M 0 0 0, nI p) := by
  have hl := hP.lim
  have hβ := hB.1
  intro q
  induction q with
  | zero =>
    intro i hi g hg
    obtain ⟨g, rfl⟩ := Nat.exists_eq_add_of_lt hg
    rw [Nat.zero_add, show i = nr by omega]
    exact why_end hB hP g _
  | succ q ih =>
    intro i hi g hg
    obtain ⟨g, rfl⟩ := Nat.exists_eq_add_of_lt hg
    obtain ⟨y, h1, -⟩ := why_one hB hP hs ht hc hk (show i < nr by omega)
    have go := ih (i + 1) (by omega) (q + 1 + g) (by omega)
    rw [show 24 * β + (i + 1) = 24 * β + i + 1 by omega, ← nI_1] at go
    rw [h1]
    unfold m_why_J140
    simp only [bd]
    rw [if_pos (nI_pos' (n := p) (by omega)), go]
    cases y <;> rfl
theorem why_run (hB : BkR S M β) (hP : PoR S M (pcl β) β nt nc nb nr) {s t c k : Nat} (hs : s < nt) (ht : t < nt) (hc : c < nc) (hk : k < 8) : ∃ v, cPolicy_placeOfAllow (pcl β) (nI s) (nI t) (nI c) (nI k) S = some v ∧ m_why_L43 (nI s) (nI t) (nI c) (nI k) M 600 (-1) (nI (24 * β)) = some (pI M 0 0 0, v) := by
  have hl := hP.lim
  have hβ := hB.1
  have key : ∀ q i, i + q = nr → ∀ f g, q < f → q < g → ∃ v, cPolicy_placeOfAllow_L3 (pcl β) (nI s) (nI t) (nI c) (nI k) S f (nI i) = some v ∧ m_why_L43 (nI s) (nI t) (nI c) (nI k) M g (-1) (nI (24 * β + i)) = some (pI M 0 0 0, v) := by
    intro q
    induction q with
    | zero =>
      intro i hi f g hf hg
      obtain ⟨f, rfl⟩ := Nat.exists_eq_add_of_lt hf
      obtain ⟨g, rfl⟩ := Nat.exists_eq_add_of_lt hg
      refine ⟨-1, ?_, ?_⟩
      · rw [Nat.zero_add, cPolicy_placeOfAllow_L3, hP.r.1, if_pos (nI_le (by omega) (by omega))]
      · rw [Nat.zero_add, show i = nr by omega]
        exact why_end hB hP g _
    | succ q ih =>
      intro i hi f g hf hg
      obtain ⟨f, rfl⟩ := Nat.exists_eq_add_of_lt hf
      obtain ⟨g, rfl⟩ := Nat.exists_eq_add_of_lt hg
      obtain ⟨y, h1, h2⟩ := why_one hB hP hs ht hc hk (show i < nr by omega)
      obtain ⟨p, hp, p1, p2⟩ := (hP.ru i (by omega)).place
      have i48 : inbd (nI (24 * β + i)) 48 = true := inb_nI (by omega) (by omega)
      rw [h1, h2]
      unfold m_why_J140
      simp only [bd, nI_1]
      cases y with
      | false =>
        rw [if_neg (by simp), if_neg (by simp)]
        exact ih (i + 1) (by omega) _ _ (by omega) (by omega)
      | true =>
        rw [if_pos rfl, if_pos rfl, if_neg (show ¬ (0 : Int32) ≤ -1 by decide), if_pos i48, tx_nI (show 24 * β + i < 2 ^ 31 by omega), p1, p2]
        exact ⟨nI p, rfl, why_done hB hP hp hs ht hc hk q (i + 1) (by omega) _ (by omega)⟩
  exact key nr 0 (by omega) 600 600 (by omega) (by omega)
theorem bt_hi {v k : Nat} (hv : v < 256) (hk : 8 ≤ k) : bt (nI v) k = false := by
  show (BitVec.ofNat 32 v).getLsbD k = false
  rw [BitVec.getLsbD_ofNat]
  have : v.testBit k = false := Nat.testBit_lt_two_pow (Nat.lt_of_lt_of_le hv (by
    have := Nat.pow_le_pow_right (show 0 < 2 by decide) hk
    omega))
  simp [this]
/-- outside 0..7 no permission is ever found -/
theorem why_no (hB : BkR S M β) (hP : PoR S M (pcl β) β nt nc nb nr) {s t c : Nat} {k : Int32} (hs : s < nt) (ht : t < nt) (hc : c < nc) (hk : ∀ v, v < 256 → cG_hasBit (nI v) k = some false) : cPolicy_placeOfAllow (pcl β) (nI s) (nI t) (nI c) k S = some (-1) := by
  have hl := hP.lim
  have hβ := hB.1
  have key : ∀ q i, i + q = nr → ∀ f, q < f → cPolicy_placeOfAllow_L3 (pcl β) (nI s) (nI t) (nI c) k S f (nI i) = some (-1) := by
    intro q
    induction q with
    | zero =>
      intro i hi f hf
      obtain ⟨f, rfl⟩ := Nat.exists_eq_add_of_lt hf
      rw [Nat.zero_add, cPolicy_placeOfAllow_L3, hP.r.1, if_pos (nI_le (by omega) (by omega))]
    | succ q ih =>
      intro i hi f hf
      obtain ⟨f, rfl⟩ := Nat.exists_eq_add_of_lt hf
      have hR := hP.ru i (by omega)
      obtain ⟨kw, hk1, hk2, hk3⟩ := hR.kind
      have hne : ¬ nI nr ≤ nI i := nI_ge (by omega) (by omega)
      have i24 : inbd (nI i) 24 = true := inb_nI (by omega) (by omega)
      obtain ⟨fo, -, f2⟩ := if_eq hB hP (show 24 * β + i < 48 by omega) hR
      have hz : ∃ v, v < 256 ∧ cPolicy_permissionsInForce (pcl β) (pcl β + 21 + 4 * i) (nI s) (nI t) (nI c) S = some (nI v) := by
        rw [f2]
        cases fo with
        | false => exact ⟨0, by omega, rfl⟩
        | true =>
          obtain ⟨pv, p0, p1, -⟩ := hR.perm c (by omega)
          rw [j29 (by omega) (by omega) (by omega), p1]
          by_cases hh : bt (gI S (pcl β + 21 + 4 * i) 9) c = true ∧ bt (tgs S (pcl β + 21 + 4 * i) s) t = true
          · exact ⟨pv, p0, by rw [if_pos hh]⟩
          · exact ⟨0, by omega, by rw [if_neg hh]; rfl⟩
      obtain ⟨v, v1, v2⟩ := hz
      rw [cPolicy_placeOfAllow_L3, hP.r.1, if_neg hne, if_pos i24, tx_nI (show i < 2 ^ 31 by omega), show pcl β + 12 + (9 + 4 * i) = pcl β + 21 + 4 * i by omega]
      simp only [bd, hk2, show kw + 5 < 15 by omega, if_true, v2, Option.bind_some, hk v v1, Bool.false_eq_true, if_false, nI_1, ite_self]
      exact ih (i + 1) (by omega) _ (by omega)
  exact key nr 0 (by omega) 600 (by omega)
theorem S_6 (h : Rl S M m) (hm : m + 2 ≤ 1024) (a1 a2 a3 a4 : Int32) : Nx m (st_6 a1 a2 a3 a4 (S, M, o)) := by
  have hr : ∀ v, Rl S (pI M 0 0 v) (m + 2) := h.th (by omega) (by omega)
  obtain ⟨β, nt, nc, nb, nr, hB, hP⟩ := h.po
  have hl := hP.lim
  have hβ := hB.1
  have g1 : gI (pI M 0 0 1) 0 0 = 1 := gI_same _ _ _ _
  have g0 : gI (pI M 0 0 0) 0 0 = 0 := gI_same _ _ _ _
  have hC : cG_why a1 a2 a3 a4 S = (if (isNum nt a1 && isNum nt a2 && isNum nc a3) = true then ((cPolicy_placeOfAllow (pcl β) a1 a2 a3 a4 S).bind fun q27 => some (S, 0, q27)) else some (S, 1, 0)) := by
    unfold cG_why
    rw [kn_eq hB hP, Option.bind_some]
    simp only [bd, hB.2.2.1, pcl_7, if_true]
  have hM : m_why a1 a2 a3 a4 M = (if (isNum nt a1 && isNum nt a2 && isNum nc a3) = true then m_why_L43 a1 a2 a3 a4 M 600 (-1) (nI (24 * β)) else some (pI M 0 0 1, 0)) := by
    unfold m_why m_why_J24 m_give
    rw [isT_m hB hP, Option.bind_some, isT_m hB hP, Option.bind_some, isC_m hB hP, Option.bind_some, hB.2.1, show (24 : Int32) * nI β = nI (24 * β) from nI_mul 24 β]
    cases isNum nt a1 <;> cases isNum nt a2 <;> cases isNum nc a3 <;> rfl
  cases hk : (isNum nt a1 && isNum nt a2 && isNum nc a3) with
  | false =>
    rw [hk] at hC hM
    have hC : cG_why a1 a2 a3 a4 S = some (S, 1, 0) := hC
    have hM : m_why a1 a2 a3 a4 M = some (pI M 0 0 1, 0) := hM
    unfold st_6 w_why
    simp only [hC, hM, Option.bind_some, show ¬ (1 : Nat) = 0 by decide, show ¬ (1 : Nat) = 2 by decide, if_false, m_thrown, g1, if_true, show ¬ (1 : Int32) = 0 by decide]
    exact wpo_some.mpr (hr _)
  | true =>
    rw [hk, if_pos rfl] at hC hM
    rw [Bool.and_eq_true, Bool.and_eq_true] at hk
    obtain ⟨s, hs, rfl⟩ := isNum_t (by omega) hk.1.1
    obtain ⟨t, ht, rfl⟩ := isNum_t (by omega) hk.1.2
    obtain ⟨c, hc, rfl⟩ := isNum_t (by omega) hk.2
    have hv : ∃ v, cPolicy_placeOfAllow (pcl β) (nI s) (nI t) (nI c) a4 S = some v ∧ m_why_L43 (nI s) (nI t) (nI c) a4 M 600 (-1) (nI (24 * β)) = some (pI M 0 0 0, v) := by
      have b5 := bk5 (c := 4) hB.1 (by omega)
      by_cases c1 : a4 < 0
      · refine ⟨-1, why_no hB hP hs ht hc (fun v _ => by unfold cG_hasBit; rw [if_pos c1]), ?_⟩
        show m_why_L43 _ _ _ _ _ (599 + 1) _ _ = _
        rw [m_why_L43, hB.2.1, show (5 : Int32) * nI β + 4 = 5 * nI β + nI 4 from rfl, if_pos b5.1, if_pos c1, ite_self]
        rfl
      obtain ⟨k, hk', rfl⟩ := nI_of c1
      by_cases c2 : k < 8
      · exact why_run hB hP hs ht hc c2
      · have c3 : (8 : Int32) ≤ nI k := nI_le (a := 8) (by omega) hk'
        refine ⟨-1, why_no hB hP hs ht hc (fun v hv => ?_), ?_⟩
        · by_cases c4 : k < 32
          · rw [hb_eq _ c4, bt_hi hv (by omega)]
          · unfold cG_hasBit
            rw [if_neg c1, if_pos (show (32 : Int32) ≤ nI k from nI_le (a := 32) (by omega) hk')]
        · show m_why_L43 _ _ _ _ _ (599 + 1) _ _ = _
          rw [m_why_L43, hB.2.1, show (5 : Int32) * nI β + 4 = 5 * nI β + nI 4 from rfl, if_pos b5.1, if_neg c1, if_pos c3, ite_self]
          rfl
    obtain ⟨v, v1, v2⟩ := hv
    rw [v1, Option.bind_some] at hC
    rw [v2] at hM
    unfold st_6 w_why
    simp only [hC, hM, Option.bind_some, if_true, m_thrown, g0, va_up]
    exact wpo_some.mpr (hr _)
end WHY
section FLI
variable {S S' : CS} {M M' : MS} {o : Nat → Int64} {m β nt nc nb nr : Nat}
theorem PoR.fl {d : Nat} (hP : PoR S M d β nt nc nb nr) (j : Nat) (v : Bool) : PoR (pB S (d + 11) j v) (pB M 10 (3 * β + j) v) d β nt nc nb nr := by
  obtain ⟨hl, t, tn, c, cn, b, bv, r, ru, nd⟩ := hP
  refine ⟨hl, t, tn, c, cn, b, fun i hi => ?_, r, fun i hi => ?_, fun i i2 hi hi2 => ?_⟩
  · rw [gB_pB, gB_pB]
    by_cases e : i = j
    · rw [if_pos ⟨rfl, e⟩, if_pos ⟨rfl, by omega⟩]
    · rw [if_neg (fun q => e q.2), if_neg (fun q => by omega)]
      exact bv i hi
  · exact (ru i hi).fr (fun a q ha => ⟨rfl, rfl, rfl, gB_other _ _ (by omega)⟩) (fun a g1 g2 => ⟨rfl, gB_other _ _ (by omega)⟩) (fun c _ => rfl)
  · have ti : ∀ s, tgs (pB S (d + 11) j v) (d + 21 + 4 * i) s = tgs S (d + 21 + 4 * i) s := fun s => tgs_fr (fun q => ⟨rfl, gB_other _ _ (by omega)⟩)
    have tj : ∀ s, tgs (pB S (d + 11) j v) (d + 21 + 4 * i2) s = tgs S (d + 21 + 4 * i2) s := fun s => tgs_fr (fun q => ⟨rfl, gB_other _ _ (by omega)⟩)
    simp only [ti, tj]
    exact nd i i2 hi hi2
theorem Rl.fl (h : Rl S M m) (hm : m + 2 ≤ 1024) (g1 : SqR S' M' (m + 2)) (gB : BkR S M β) (gP : PoR S' M' (pcl β) β nt nc nb nr) (g2 : eqC (fun k j => ¬ xSq k j ∧ ¬ xPo (pcl β) k j) S S') (g3 : eqC (fun k j => ¬ ySq k j ∧ k ≠ 10 ∧ nth k j) M M') : Rl S' M' (m + 2) := by
  refine ⟨by omega, h.tx.fr (g2.mono ?_) (g3.mono ?_), h.ft.fr (g2.mono ?_) (g3.mono ?_), g1, h.la.fr (g2.mono ?_) (g3.mono ?_), h.ca.fr (by omega) (g2.mono ?_) (g3.mono ?_), h.lo.fr (by omega) (g2.mono ?_) (g3.mono ?_), β, nt, nc, nb, nr, gB.fr (g2.mono ?_) (g3.mono ?_), gP⟩
  all_goals
    intro k j hk
    simp only [xTx, yTx, xFt, yFt, xSq, ySq, xLa, yLa, xCa, yCa, xLo, yLo, xBk, yBk, xPo, nth, pcl] at *
    (try split) <;> omega
theorem fl_go (h : Rl S M m) (hm : m + 2 ≤ 1024) (a1 : Int32) (v : Bool) : Nx m ((w_flip a1 v (S, M, o)).bind fun q297 => ((m_flip a1 v q297.1.2.1).bind fun q323 => ((m_thrown q323.1).bind fun q329 => (if q329 = q297.2 then (if q297.2 = 0 then (if q323.2 = true then (if (q297.1.2.2 0) = 1 then some (q297.1.1, q323.1, q297.1.2.2) else none) else (if (q297.1.2.2 0) = 0 then some (q297.1.1, q323.1, q297.1.2.2) else none)) else some (q297.1.1, q323.1, q297.1.2.2)) else none)))) := by
  have hr : ∀ v, Rl S (pI M 0 0 v) (m + 2) := h.th (by omega) (by omega)
  obtain ⟨β, nt, nc, nb, nr, hB, hP⟩ := h.po
  obtain ⟨q, hq, q1, q2⟩ := h.sq
  have hl := hP.lim
  have b5 := bk5 (c := 3) hB.1 (by omega)
  have g1 : gI (pI M 0 0 (bI true)) 0 0 = 1 := gI_same _ _ _ _
  have g0 : gI (pI M 0 0 (bI false)) 0 0 = 0 := gI_same _ _ _ _
  have hmf : m_flip a1 v M = (if isNum nb a1 = true then m_flip_J27 a1 v false M else m_flip_J27 a1 v true M) := by
    unfold m_flip isNum
    rw [hB.2.1, show (5 : Int32) * nI β + 3 = 5 * nI β + nI 3 from rfl, if_pos b5.1, b5.2, hP.b.2]
    by_cases h1 : a1 < 0
    · simp [h1, m_flip_J26]
    · by_cases h2 : nI nb ≤ a1 <;> simp [h1, h2, m_flip_J26]
  have hcf : cG_flip a1 v S = (if isNum nb a1 = true then (if inbd a1 3 = true then (if (bI (gB S (pcl β + 11) (txN a1))) = (bI v) then some (S, 0, gB S (pcl β + 11) (txN a1)) else (if inbd a1 3 = true then some (pI (pB S (pcl β + 11) (txN a1) v) 0 4 ((gI (pB S (pcl β + 11) (txN a1) v) 0 4) + 1), 0, gB S (pcl β + 11) (txN a1)) else none)) else none) else some (S, 1, false)) := by
    unfold cG_flip
    simp only [bd, hB.2.2.1, pcl_7, if_true, hn_eq hP.b.1, Option.bind_some]
  have fin : ∀ (b : Bool) (S1 : CS) (M1 : MS), cG_flip a1 v S = some (S1, 0, b) → m_flip a1 v M = some (M1, b) → gI M1 0 0 = 0 → Rl S1 M1 (m + 2) → Nx m ((w_flip a1 v (S, M, o)).bind fun q297 => ((m_flip a1 v q297.1.2.1).bind fun q323 => ((m_thrown q323.1).bind fun q329 => (if q329 = q297.2 then (if q297.2 = 0 then (if q323.2 = true then (if (q297.1.2.2 0) = 1 then some (q297.1.1, q323.1, q297.1.2.2) else none) else (if (q297.1.2.2 0) = 0 then some (q297.1.1, q323.1, q297.1.2.2) else none)) else some (q297.1.1, q323.1, q297.1.2.2)) else none)))) := by
    intro b S1 M1 e1 e2 e3 e4
    unfold w_flip
    simp only [e1, e2, Option.bind_some, if_true, m_thrown, e3, va_up]
    cases b
    · simp only [Bool.false_eq_true, if_false, if_true]
      exact wpo_some.mpr e4
    · simp only [if_true]
      exact wpo_some.mpr e4
  cases k1 : isNum nb a1 with
  | false =>
    rw [k1] at hcf hmf
    have hcf : cG_flip a1 v S = some (S, 1, false) := hcf
    have hmf : m_flip a1 v M = some (pI M 0 0 (bI true), false) := by
      rw [hmf, if_neg (by simp)]
      unfold m_flip_J27
      simp only [bd, g1, show ¬ (1 : Int32) ≤ 0 by decide, if_false]
    unfold w_flip
    simp only [hcf, hmf, show ¬ (1 : Nat) = 0 by decide, show ¬ (1 : Nat) = 2 by decide, if_false, Option.bind_some, m_thrown, g1, if_true, show ¬ (1 : Int32) = 0 by decide]
    exact wpo_some.mpr (hr _)
  | true =>
    rw [k1, if_pos rfl] at hcf hmf
    obtain ⟨j, hj, rfl⟩ := isNum_t (by omega) k1
    have i3 : inbd (nI j) 3 = true := inb_nI (by omega) (by omega)
    have b3 := bk3 (c := j) hB.1 (by omega)
    have e12 : gI (pI M 0 0 (bI false)) 0 12 = nI β := (gI_other _ _ (by omega)).trans hB.2.1
    have e34 : gI (pI M 0 0 (bI false)) 0 34 = nI q := (gI_other _ _ (by omega)).trans q2
    have ebv := hP.bv j hj
    have hP1 : PoR S (pI M 0 0 (bI false)) (pcl β) β nt nc nb nr := hP.fr (eqC.rf _ _) ((eqC.rf _ _).I _ (by simp [yPo]))
    have hpl : pcl β + 11 < 241 ∧ 7 ≤ pcl β := by unfold pcl; split <;> omega
    rw [if_pos i3, tx_nI (show j < 2 ^ 31 by omega), ebv, if_pos i3, gI_pB, q1] at hcf
    have hmf2 : m_flip (nI j) v M = (if (bI (gB M 10 (3 * β + j))) = (bI v) then some (pI (pB (pI M 0 0 (bI false)) 10 (3 * β + j) v) 0 34 (nI q + 0), gB M 10 (3 * β + j)) else some (pI (pB (pI M 0 0 (bI false)) 10 (3 * β + j) v) 0 34 (nI q + 1), gB M 10 (3 * β + j))) := by
      rw [hmf]
      unfold m_flip_J27
      simp only [bd, g0, show (0 : Int32) ≤ 0 by decide, if_true, e12, b3.1, b3.2, gB_pI, gI_pB, e34]
    by_cases hv : gB M 10 (3 * β + j) = v
    · subst hv
      have hR : Rl S (pI (pB (pI M 0 0 (bI false)) 10 (3 * β + j) (gB M 10 (3 * β + j))) 0 34 (nI q + 0)) (m + 2) := by
        refine h.ro (by omega) (by omega) (fun k i hk => ⟨?_, rfl, rfl, ?_⟩)
        · rw [gI_pI]
          by_cases e : k = 0 ∧ i = 34
          · rw [if_pos e, e.1, e.2, q2, Int32.add_zero]
          · rw [if_neg e, gI_pB, gI_other _ _ hk]
        · rw [gB_pI, gB_pB]
          by_cases e : k = 10 ∧ i = 3 * β + j
          · rw [if_pos e, e.1, e.2]
          · rw [if_neg e, gB_pI]
      have g00 : gI (pI (pB (pI M 0 0 (bI false)) 10 (3 * β + j) (gB M 10 (3 * β + j))) 0 34 (nI q + 0)) 0 0 = 0 := by
        rw [gI_other _ _ (by omega), gI_pB]
        exact gI_same _ _ _ _
      rw [if_pos rfl] at hcf hmf2
      exact fin _ _ _ hcf hmf2 g00 hR
    · have hb : ¬ bI (gB M 10 (3 * β + j)) = bI v := by
        intro z
        apply hv
        revert z
        cases gB M 10 (3 * β + j) <;> cases v <;> decide
      have hR : Rl (pI (pB S (pcl β + 11) j v) 0 4 (nI q + 1)) (pI (pB (pI M 0 0 (bI false)) 10 (3 * β + j) v) 0 34 (nI q + 1)) (m + 2) := by
        refine h.fl hm ⟨q + 1, by omega, by rw [gI_same, nI_1], by rw [gI_same, nI_1]⟩ hB (((hP1.fl j v)).fr ((eqC.rf _ _).I _ (by simp only [xPo]; omega)) ((eqC.rf _ _).I _ (by simp [yPo]))) (((eqC.rf _ _).B _ (by simp only [xSq, xPo]; omega)).I _ (by simp [xSq])) ((((eqC.rf _ _).I _ (by simp [nth])).B _ (by simp)).I _ (by simp [ySq]))
      have g00 : gI (pI (pB (pI M 0 0 (bI false)) 10 (3 * β + j) v) 0 34 (nI q + 1)) 0 0 = 0 := by
        rw [gI_other _ _ (by omega), gI_pB]
        exact gI_same _ _ _ _
      rw [if_neg hb] at hcf hmf2
      exact fin _ _ _ hcf hmf2 g00 hR
theorem S_4 (h : Rl S M m) (hm : m + 2 ≤ 1024) (a1 a2 a3 a4 : Int32) : Nx m (st_4 a1 a2 a3 a4 (S, M, o)) := by
  unfold st_4
  by_cases h0 : a2 = 0
  · rw [if_pos h0]
    exact fl_go h hm a1 false
  · rw [if_neg h0]
    exact fl_go h hm a1 true
end FLI
