section IGE
variable {S S' : CS} {M M' : MS} {o : Nat → Int64} {m β nt nc nb nr n s t c : Nat}
def hbk (v : Nat) (k : Int32) : Bool := (!decide (k < 0)) && (!decide (8 ≤ k)) && bt (nI v) (txN k)
theorem hb_k {v : Nat} (hv : v < 256) (k : Int32) : cG_hasBit (nI v) k = some (hbk v k) := by
  unfold hbk
  by_cases c1 : k < 0
  · unfold cG_hasBit
    simp [c1]
  obtain ⟨j, hj, rfl⟩ := nI_of c1
  by_cases c2 : j < 8
  · have c3 : ¬ (8 : Int32) ≤ nI j := nI_ge (b := 8) c2 (by omega)
    rw [hb_eq _ (by omega), tx_nI hj]
    simp [c1, c3]
  · have c3 : (8 : Int32) ≤ nI j := nI_le (a := 8) (by omega) hj
    have : cG_hasBit (nI v) (nI j) = some false := by
      by_cases c4 : j < 32
      · rw [hb_eq _ c4, bt_hi hv (by omega)]
      · unfold cG_hasBit
        rw [if_neg c1, if_pos (show (32 : Int32) ≤ nI j from nI_le (a := 32) (by omega) hj)]
    rw [this]
    simp [c3]
def ntd (v : Nat → Nat) (k : Int32) : Bool := if hbk (v 0) k = true then hbk (v 1) k else !hbk (v 2) k
theorem j34 {T : CS} {E : Nat} {v : Nat → Nat} {x1 x2 x3 k : Int32} (hv : ∀ j, j < 3 → v j < 256) (h : ∀ j, j < 3 → gI T E (5 + j) = nI (v j)) : cG_isGranted_J34 x1 x2 x3 k E T = cG_isGranted_J82 x1 x2 x3 k (hbk (v 0) k) (ntd v k) T := by
  have h5 : gI T E 5 = nI (v 0) := h 0 (by omega)
  have h6 : gI T E 6 = nI (v 1) := h 1 (by omega)
  have h7 : gI T E 7 = nI (v 2) := h 2 (by omega)
  unfold cG_isGranted_J34 ntd
  rw [h5, hb_k (hv 0 (by omega)), Option.bind_some, h6, hb_k (hv 1 (by omega)), Option.bind_some, h7, hb_k (hv 2 (by omega)), Option.bind_some]
  cases hbk (v 0) k <;> cases hbk (v 1) k <;> cases hbk (v 2) k <;> rfl
theorem igM_eq {T : MS} {e : Nat} {v : Nat → Nat} {x1 x2 x3 k : Int32} (he : e < 6) (h : ∀ j, j < 3 → gI T 28 (3 * e + j) = nI (v j)) : igM x1 x2 x3 k e T = if ntd v k = true then m_isAllowed_J412 x1 x2 x3 k (hbk (v 0) k) T else some (T, hbk (v 0) k) := by
  have i18 : ∀ j, j < 3 → inbd (3 * nI e + nI j) 18 = true ∧ txN (3 * nI e + nI j) = 3 * e + j := fun j hj => by
    have e : (3 : Int32) * nI e + nI j = nI (3 * e + j) := by rw [show (3 : Int32) = nI 3 from rfl, nI_mul, nI_add]
    rw [e]
    exact ⟨inb_nI (by omega) (by omega), tx_nI (by omega)⟩
  have i0 : inbd (3 * nI e) 18 = true ∧ txN (3 * nI e) = 3 * e := by
    have e : (3 : Int32) * nI e = nI (3 * e) := nI_mul 3 e
    rw [e]
    exact ⟨inb_nI (by omega) (by omega), tx_nI (by omega)⟩
  have i1 := i18 1 (by omega)
  have i2 := i18 2 (by omega)
  have h0 := h 0 (by omega)
  have h1 := h 1 (by omega)
  have h2 := h 2 (by omega)
  rw [show (3 : Int32) * nI e + nI 1 = 3 * nI e + 1 from rfl] at i1
  rw [show (3 : Int32) * nI e + nI 2 = 3 * nI e + 2 from rfl] at i2
  rw [Nat.add_zero] at h0
  have hF : (k < 0 ∨ 8 ≤ k) → m_isAllowed_J298 x1 x2 x3 k (nI e) false T = if ntd v k = true then m_isAllowed_J412 x1 x2 x3 k (hbk (v 0) k) T else some (T, hbk (v 0) k) := by
    intro hk
    have hz : ∀ w, hbk w k = false := fun w => by
      unfold hbk
      rcases hk with hk | hk <;> simp [hk]
    unfold ntd
    rw [hz, hz, hz]
    rfl
  unfold igM
  by_cases c1 : k < 0
  · rw [if_pos c1]
    exact hF (Or.inl c1)
  rw [if_neg c1]
  by_cases c2 : 8 ≤ k
  · rw [if_pos c2]
    exact hF (Or.inr c2)
  rw [if_neg c2]
  obtain ⟨j, hj, rfl⟩ := nI_of c1
  have hj8 : j < 8 := Nat.not_le.mp (fun z => c2 (nI_le (a := 8) z hj))
  have hb : ∀ w, hbk w (nI j) = bt (nI w) j := fun w => by
    unfold hbk
    rw [tx_nI hj]
    simp [c1, c2]
  have bs : ∀ (w : Nat) (α : Type) (x y : α), (if ((nI w >>> (nI j &&& 31)) &&& 1) = 1 then x else y) = if bt (nI w) j = true then x else y := fun w α x y => by
    by_cases hw : bt (nI w) j = true
    · rw [if_pos ((bit_s1 _ (by omega)).mpr hw), if_pos hw]
    · rw [if_neg (fun z => hw ((bit_s1 _ (by omega)).mp z)), if_neg hw]
  unfold ntd
  rw [hb, hb, hb]
  unfold m_isAllowed_J298 m_isAllowed_J327 m_isAllowed_J328 m_isAllowed_J359 m_isAllowed_J360 m_isAllowed_J391 m_isAllowed_J392
  simp only [i0.1, i0.2, i1.1, i1.2, i2.1, i2.2, h0, h1, h2, if_true, bs]
  cases bt (nI (v 0)) j <;> cases bt (nI (v 1)) j <;> cases bt (nI (v 2)) j <;> rfl
def rwC (S : CS) (R : Nat) (x1 x2 x3 x4 x5 : Int32) (n : Nat) : CS := pI (pI (pI (pI (pI (pI S R 0 x1) R 1 x2) R 2 x3) R 3 x4) R 4 x5) 252 1 (nI (n + 1))
def rwM (M : MS) (a : Nat) (x1 x2 x3 x4 x5 : Int32) (n : Nat) : MS := pI (pI (pI (pI (pI (pI M 30 a x1) 30 (a + 1) x2) 30 (a + 2) x3) 30 (a + 3) x4) 30 (a + 4) x5) 0 46 (nI (n + 1))
theorem add_log {x1 x2 x3 x4 : Int32} {g : Bool} (hn : n < 2000) (e : gI S 252 1 = nI n) : cNoteLog_add x1 x2 x3 x4 g S = some (rwC S (254 + n % 8) x1 x2 x3 x4 (bI g) n) := by
  unfold cNoteLog_add
  rw [e, fmd8 (by omega), Option.bind_some]
  have r : ∀ T : CS, ∀ v, gI (pI T (254 + n % 8) 4 v) 252 1 = gI T 252 1 := fun T v => by (repeat (first | rw [gI_same] | rw [gI_other _ _ (by omega)] | rw [gI_pL] | rw [gI_pB] | rw [gI_pR]))
  have r0 : gI (pI (pI (pI (pI S (254 + n % 8) 0 x1) (254 + n % 8) 1 x2) (254 + n % 8) 2 x3) (254 + n % 8) 3 x4) 252 1 = nI n := by (repeat (first | rw [gI_same] | rw [gI_other _ _ (by omega)] | rw [gI_pL] | rw [gI_pB] | rw [gI_pR])); exact e
  simp only [bd, inb_nI (show n % 8 < 8 by omega) (show 8 < 2 ^ 31 by omega), if_true, tx_nI (show n % 8 < 2 ^ 31 by omega), show 253 + (1 + n % 8) = 254 + n % 8 by omega, show inbd 0 5 = true by decide, show inbd 1 5 = true by decide, show inbd 2 5 = true by decide, show inbd 3 5 = true by decide, show txN 0 = 0 by decide, show txN 1 = 1 by decide, show txN 2 = 2 by decide, show txN 3 = 3 by decide]
  cases g with
  | true =>
    simp only [if_true, cNoteLog_add_J50, bd, show inbd 4 5 = true by decide, show txN 4 = 4 by decide, r, r0, nI_1, rwC]
  | false =>
    simp only [Bool.false_eq_true, if_false, if_true, cNoteLog_add_J50, bd, show inbd 4 5 = true by decide, show txN 4 = 4 by decide, r, r0, nI_1, rwC]
theorem j412 {x1 x2 x3 x4 : Int32} {g : Bool} (hn : n < 2000) (e : gI M 0 46 = nI n) : m_isAllowed_J412 x1 x2 x3 x4 g M = some (rwM M (5 * (n % 8)) x1 x2 x3 x4 (bI g) n, g) := by
  have ha : (5 : Int32) * nI (n % 8) = nI (5 * (n % 8)) := nI_mul 5 _
  have hi : ∀ j, j < 5 → inbd (nI (5 * (n % 8)) + nI j) 40 = true ∧ txN (nI (5 * (n % 8)) + nI j) = 5 * (n % 8) + j := fun j hj => by
    rw [nI_add]
    exact ⟨inb_nI (by omega) (by omega), tx_nI (by omega)⟩
  have h0 : inbd (nI (5 * (n % 8))) 40 = true := inb_nI (by omega) (by omega)
  have h1 := hi 1 (by omega)
  have h2 := hi 2 (by omega)
  have h3 := hi 3 (by omega)
  have h4 := hi 4 (by omega)
  rw [show nI 1 = 1 from rfl] at h1
  rw [show nI 2 = 2 from rfl] at h2
  rw [show nI 3 = 3 from rfl] at h3
  rw [show nI 4 = 4 from rfl] at h4
  have r0 : ∀ x5, gI (pI (pI (pI (pI (pI M 30 (5 * (n % 8)) x1) 30 (5 * (n % 8) + 1) x2) 30 (5 * (n % 8) + 2) x3) 30 (5 * (n % 8) + 3) x4) 30 (5 * (n % 8) + 4) x5) 0 46 = nI n := fun x5 => by (repeat (first | rw [gI_same] | rw [gI_other _ _ (by omega)] | rw [gI_pL] | rw [gI_pB] | rw [gI_pR])); exact e
  unfold m_isAllowed_J412
  simp only [bd, e, nI_m8 (show n < 2 ^ 31 by omega), ha, h0, if_true, tx_nI (show 5 * (n % 8) < 2 ^ 31 by omega), h1.1, h1.2, h2.1, h2.2, h3.1, h3.2]
  cases g with
  | true => simp only [if_true, m_isAllowed_J480, h4.1, h4.2, bd, r0, nI_1, rwM]
  | false => simp only [Bool.false_eq_true, if_false, if_true, m_isAllowed_J480, h4.1, h4.2, bd, r0, nI_1, rwM]
theorem LoR.add (h : ∀ i j, i < 8 → j < 5 → gI S (254 + i) j = gI M 30 (5 * i + j)) (hm : n + 1 ≤ m) {x1 x2 x3 x4 x5 : Int32} : LoR (rwC S (254 + n % 8) x1 x2 x3 x4 x5 n) (rwM M (5 * (n % 8)) x1 x2 x3 x4 x5 n) m := by
  refine ⟨n + 1, hm, ?_, ?_, fun i j hi hj => ?_⟩
  · unfold rwC; (repeat (first | rw [gI_same] | rw [gI_other _ _ (by omega)] | rw [gI_pL] | rw [gI_pB] | rw [gI_pR]))
  · unfold rwM; (repeat (first | rw [gI_same] | rw [gI_other _ _ (by omega)] | rw [gI_pL] | rw [gI_pB] | rw [gI_pR]))
  · unfold rwC rwM
    by_cases e : i = n % 8
    · subst e
      have : j = 0 ∨ j = 1 ∨ j = 2 ∨ j = 3 ∨ j = 4 := by omega
      rcases this with rfl | rfl | rfl | rfl | rfl
      · (repeat (first | rw [gI_same] | rw [gI_other _ _ (by omega)] | rw [gI_pL] | rw [gI_pB] | rw [gI_pR]))
      · (repeat (first | rw [gI_same] | rw [gI_other _ _ (by omega)] | rw [gI_pL] | rw [gI_pB] | rw [gI_pR]))
      · (repeat (first | rw [gI_same] | rw [gI_other _ _ (by omega)] | rw [gI_pL] | rw [gI_pB] | rw [gI_pR]))
      · (repeat (first | rw [gI_same] | rw [gI_other _ _ (by omega)] | rw [gI_pL] | rw [gI_pB] | rw [gI_pR]))
      · (repeat (first | rw [gI_same] | rw [gI_other _ _ (by omega)] | rw [gI_pL] | rw [gI_pB] | rw [gI_pR]))
    · (repeat (first | rw [gI_same] | rw [gI_other _ _ (by omega)] | rw [gI_pL] | rw [gI_pB] | rw [gI_pR]))
      exact h i j hi hj
end IGE

section IGF
variable {S S' : CS} {M M' : MS} {o : Nat → Int64} {m β nt nc nb nr n s t c : Nat}
theorem CaR.ask {T : CS} {U : MS} {e n' a q : Nat} {h' m' : Int32} {v : Nat → Nat} (hC : AfC S T e n' a s t c q h' m' v) (hM : AfM M U e n' a s t c q h' m' v) (hs : s < 12) (ht : t < 12) (hc : c < 4) (hq : q ≤ m) (ha : a ≤ m) (he : e < n') (hn' : n' ≤ 6) (hv : ∀ j, j < 3 → v j < 256) (hE : ∀ i, i < n → EnR S M i m) (hu : ∀ i j, i < n → j < n → gI M 26 i = gI M 26 j → i = j) (hno : ∀ i, i < n → i ≠ e → ¬ gI M 26 i = nI (64 * s + 4 * t + c)) (hold : ∀ i, i < n' → i ≠ e → i < n) : CaR T U (m + 1) := by
  refine ⟨⟨n', hn', hC.n1, hM.n1, fun i hi => ?_, fun i j hi hj hij => ?_⟩, ⟨a + 1, by omega, hC.a, hM.a⟩, hC.h.trans hM.h.symm, hC.m1.trans hM.m1.symm⟩
  · by_cases hie : i = e
    · subst hie
      exact ⟨⟨s, t, c, hs, ht, hc, hC.k.1, hC.k.2.1, hC.k.2.2, hM.k⟩, ⟨q, by omega, hC.st, hM.st⟩, hC.g.trans hM.g.symm, fun j hj => ⟨v j, hv j hj, hC.v j hj, hM.v j hj⟩⟩
    · obtain ⟨z1, z2, z3, z4⟩ := hM.o26 i (by omega) hie
      exact (hE i (hold i hi hie)).fr (by omega) (fun j => hC.o1 i j (by omega) hie) z1 z2 z3 z4
  · by_cases hie : i = e
    · by_cases hje : j = e
      · rw [hie, hje]
      · exfalso
        have hj' := hold j hj hje
        rw [hie, hM.k, (hM.o26 j (by omega) hje).1] at hij
        exact hno j hj' hje hij.symm
    · have hi' := hold i hi hie
      rw [(hM.o26 i (by omega) hie).1] at hij
      by_cases hje : j = e
      · exfalso
        rw [hje, hM.k] at hij
        exact hno i hi' hie hij
      · rw [(hM.o26 j (by omega) hje).1] at hij
        exact hu i j hi' (hold j hj hje) hij
theorem ig_eq (h : Rl S M m) (hm : m + 1 ≤ 1024) (hB : BkR S M β) (hP : PoR S M (pcl β) β nt nc nb nr) (hs : s < nt) (ht : t < nt) (hc : c < nc) (k : Int32) : ∃ (S' : CS) (M' : MS) (r : Bool), cG_isGranted (nI s) (nI t) (nI c) k S = some (S', r) ∧ m_isAllowed (nI s) (nI t) (nI c) k M = some (M', r) ∧ Rl S' M' (m + 1) ∧ BkR S' M' β ∧ PoR S' M' (pcl β) β nt nc nb nr ∧ (∀ j, gL S' 241 j = gL S 241 j ∧ gL S' 242 j = gL S 242 j ∧ gL S' 243 j = gL S 243 j) ∧ gI M' 0 0 = gI M 0 0 := by
  have hl := hP.lim
  have hpl : pcl β + 117 ≤ 241 ∧ 7 ≤ pcl β := by unfold pcl; split <;> omega
  obtain ⟨q, hq0, q1, q2⟩ := h.sq
  obtain ⟨n, hn, n1, n2, hE, hu⟩ := h.ca.n
  obtain ⟨a, ha0, a1, a2⟩ := h.ca.a
  obtain ⟨l, hl0, l1, l2, l3⟩ := h.lo
  obtain ⟨T, e, n', h', m', v, x1, x2, x3, x4, x5, x6⟩ := cls_ask hB hP hs ht hc (by omega) q1 a1 hn n1 hE k
  obtain ⟨U, y1, y2⟩ := mod_ask hB hP hs ht hc (by omega) q2 a2 hn n2 h.ca.h h.ca.ms hu x3 x4 x6 k
  have hno : ∀ i, i < n → i ≠ e → ¬ gI M 26 i = nI (64 * s + 4 * t + c) := by
    intro i hi hie z
    rcases x6 with ⟨w1, -, w3, -⟩ | ⟨-, -, -, w4⟩
    · exact hie (hu i e hi w1 (z.trans w3.symm))
    · rcases w4 with ⟨w1, -, w3, -⟩ | ⟨w1, -⟩
      · exact hie (hu i e hi w1 (z.trans w3.symm))
      · exact w1 i hi z
  have hold : ∀ i, i < n' → i ≠ e → i < n := by
    intro i hi hie
    rcases x6 with ⟨-, w2, -⟩ | ⟨-, -, -, w4⟩
    · omega
    · rcases w4 with ⟨-, w2, -⟩ | ⟨-, w2⟩
      · omega
      · omega
  have hca := CaR.ask (m := m) x2 y2 (show s < 12 by omega) (show t < 12 by omega) (show c < 4 by omega) hq0 ha0 x3 x4 x5 hE hu hno hold
  have fC := x2.fr
  have fM := y2.fr
  have e252 : gI T 252 1 = nI l := (fC 252 1 (by simp [xCa])).1.trans l1
  have e46 : gI U 0 46 = nI l := (fM 0 46 (by simp [yCa])).1.trans l2
  have e3 : ∀ i j, i < 8 → j < 5 → gI T (254 + i) j = gI U 30 (5 * i + j) := fun i j hi hj => by
    rw [(fC (254 + i) j (by simp only [xCa]; omega)).1, (fM 30 (5 * i + j) (by simp [yCa])).1]
    exact l3 i j hi hj
  rw [x1, j34 x5 x2.v, y1, igM_eq (by omega) y2.v]
  unfold cG_isGranted_J82
  have fin : ∀ (T' : CS) (U' : MS), eqC (fun k j => ¬ xLo k j) T T' → eqC (fun k j => ¬ yLo k j) U U' → LoR T' U' (m + 1) → Rl T' U' (m + 1) ∧ BkR T' U' β ∧ PoR T' U' (pcl β) β nt nc nb nr ∧ (∀ j, gL T' 241 j = gL S 241 j ∧ gL T' 242 j = gL S 242 j ∧ gL T' 243 j = gL S 243 j) ∧ gI U' 0 0 = gI M 0 0 := by
    intro T' U' g1 g2 g3
    have gC : eqC (fun k j => ¬ xCa k j ∧ ¬ xLo k j) S T' := (fC.mono (fun k j z => z.1)).tr (g1.mono (fun k j z => z.2))
    have gM : eqC (fun k j => ¬ yCa k j ∧ ¬ yLo k j) M U' := (fM.mono (fun k j z => z.1)).tr (g2.mono (fun k j z => z.2))
    have hB' : BkR T' U' β := hB.fr (gC.mono ?_) (gM.mono ?_)
    have hP' : PoR T' U' (pcl β) β nt nc nb nr := hP.fr (gC.mono ?_) (gM.mono ?_)
    refine ⟨⟨hm, h.tx.fr (gC.mono ?_) (gM.mono ?_), h.ft.fr (gC.mono ?_) (gM.mono ?_), h.sq.fr (by omega) (gC.mono ?_) (gM.mono ?_), h.la.fr (gC.mono ?_) (gM.mono ?_), hca.fr (Nat.le_refl _) (g1.mono ?_) (g2.mono ?_), g3, β, nt, nc, nb, nr, hB', hP'⟩, hB', hP', fun j => ⟨(gC 241 j ?_).2.1, (gC 242 j ?_).2.1, (gC 243 j ?_).2.1⟩, (gM 0 0 ?_).1⟩
    all_goals (try intro k j hk)
    all_goals
      simp only [xTx, yTx, xFt, yFt, xSq, ySq, xLa, yLa, xCa, yCa, xLo, yLo, xBk, yBk, xPo, yPo] at *
      omega
  cases hnt : ntd v k with
  | true =>
    rw [if_pos rfl, if_pos rfl, add_log (by omega) e252, Option.bind_some, j412 (by omega) e46]
    refine ⟨_, _, _, rfl, rfl, fin _ _ ?_ ?_ (LoR.add e3 (by omega))⟩
    · unfold rwC
      exact ((((((eqC.rf _ T).I _ (by simp only [xLo]; omega)).I _ (by simp only [xLo]; omega)).I _ (by simp only [xLo]; omega)).I _ (by simp only [xLo]; omega)).I _ (by simp only [xLo]; omega)).I _ (by simp [xLo])
    · unfold rwM
      exact ((((((eqC.rf _ U).I _ (by simp [yLo])).I _ (by simp [yLo])).I _ (by simp [yLo])).I _ (by simp [yLo])).I _ (by simp [yLo])).I _ (by simp [yLo])
  | false =>
    rw [if_neg (by simp), if_neg (by simp)]
    exact ⟨_, _, _, rfl, rfl, fin _ _ (eqC.rf _ _) (eqC.rf _ _) ⟨l, by omega, e252, e46, e3⟩⟩
end IGF
