section IGE
variable {S S' : CS} {M M' : MS} {o : Nat → Int64} {m β nt nc nb nr n s t c : Nat}
def hbk (v : Nat) (k : Int32) : Bool := (!decide (k < 0)) && (!decide (8 ≤ k)) && bt (nI v) (txN k)
theorem hb_k {v : Nat} (hv : v < 256) (k : Int32) : cG_hasBit (nI v) k = some (hbk v k) := by
  unfold hbk
  by_cases c1 : k < 0
  · unfold cG_hasBit
    simp [c1]
  obtain ⟨j, hj, rfl⟩ := nI_of c1
  by_cases c2 : j < 8
  · have c3 : ¬ (8 : Int32) ≤ nI j := nI_ge (b := 8) c2 (by omega)
    rw [hb_eq _ (by omega), tx_nI hj]
    simp [c1, c3]
  · have c3 : (8 : Int32) ≤ nI j := nI_le (a := 8) (by omega) hj
    have : cG_hasBit (nI v) (nI j) = some false := by
      by_cases c4 : j < 32
      · rw [hb_eq _ c4, bt_hi hv (by omega)]
      · unfold cG_hasBit
        rw [if_neg c1, if_pos (show (32 : Int32) ≤ nI j from nI_le (a := 32) (by omega) hj)]
    rw [this]
    simp [c3]
def ntd (v : Nat → Nat) (k : Int32) : Bool := if hbk (v 0) k = true then hbk (v 1) k else !hbk (v 2) k
theorem j34 {T : CS} {E : Nat} {v : Nat → Nat} {x1 x2 x3 k : Int32} (hv : ∀ j, j < 3 → v j < 256) (h : ∀ j, j < 3 → gI T E (5 + j) = nI (v j)) : cG_isGranted_J34 x1 x2 x3 k E T = cG_isGranted_J82 x1 x2 x3 k (hbk (v 0) k) (ntd v k) T := by
  have h5 : gI T E 5 = nI (v 0) := h 0 (by omega)
  have h6 : gI T E 6 = nI (v 1) := h 1 (by omega)
  have h7 : gI T E 7 = nI (v 2) := h 2 (by omega)
  unfold cG_isGranted_J34 ntd
  rw [h5, hb_k (hv 0 (by omega)), Option.bind_some, h6, hb_k (hv 1 (by omega)), Option.bind_some, h7, hb_k (hv 2 (by omega)), Option.bind_some]
  cases hbk (v 0) k <;> cases hbk (v 1) k <;> cases hbk (v 2) k <;> rfl
theorem igM_eq {T : MS} {e : Nat} {v : Nat → Nat} {x1 x2 x3 k : Int32} (he : e < 6) (h : ∀ j, j < 3 → gI T 28 (3 * e + j) = nI (v j)) : igM x1 x2 x3 k e T = if ntd v k = true then m_isAllowed_J412 x1 x2 x3 k (hbk (v 0) k) T else some (T, hbk (v 0) k) := by
  have i18 : ∀ j, j < 3 → inbd (3 * nI e + nI j) 18 = true ∧ txN (3 * nI e + nI j) = 3 * e + j := fun j hj => by
    have e : (3 : Int32) * nI e + nI j = nI (3 * e + j) := by rw [show (3 : Int32) = nI 3 from rfl, nI_mul, nI_add]
    rw [e]
    exact ⟨inb_nI (by omega) (by omega), tx_nI (by omega)⟩
  have i0 : inbd (3 * nI e) 18 = true ∧ txN (3 * nI e) = 3 * e := by
    have e : (3 : Int32) * nI e = nI (3 * e) := nI_mul 3 e
    rw [e]
    exact ⟨inb_nI (by omega) (by omega), tx_nI (by omega)⟩
  have i1 := i18 1 (by omega)
  have i2 := i18 2 (by omega)
  have h0 := h 0 (by omega)
  have h1 := h 1 (by omega)
  have h2 := h 2 (by omega)
  rw [show (3 : Int32) * nI e + nI 1 = 3 * nI e + 1 from rfl] at i1
  rw [show (3 : Int32) * nI e + nI 2 = 3 * nI e + 2 from rfl] at i2
  rw [Nat.add_zero] at h0
  have hF : (k < 0 ∨ 8 ≤ k) → m_isAllowed_J298 x1 x2 x3 k (nI e) false T = if ntd v k = true then m_isAllowed_J412 x1 x2 x3 k (hbk (v 0) k) T else some (T, hbk (v 0) k) := by
    intro hk
    have hz : ∀ w, hbk w k = false := fun w => by
      unfold hbk
      rcases hk with hk | hk <;> simp [hk]
    unfold ntd
    rw [hz, hz, hz]
    rfl
  unfold igM
  by_cases c1 : k < 0
  · rw [if_pos c1]
    exact hF (Or.inl c1)
  rw [if_neg c1]
  by_cases c2 : 8 ≤ k
  · rw [if_pos c2]
    exact hF (Or.inr c2)
  rw [if_neg c2]
  obtain ⟨j, hj, rfl⟩ := nI_of c1
  have hj8 : j < 8 := Nat.not_le.mp (fun z => c2 (nI_le (a := 8) z hj))
  have hb : ∀ w, hbk w (nI j) = bt (nI w) j := fun w => by
    unfold hbk
    rw [tx_nI hj]
    simp [c1, c2]
  have bs : ∀ (w : Nat) (α : Type) (x y : α), (if ((nI w >>> (nI j &&& 31)) &&& 1) = 1 then x else y) = if bt (nI w) j = true then x else y := fun w α x y => by
    by_cases hw : bt (nI w) j = true
    · rw [if_pos ((bit_s1 _ (by omega)).mpr hw), if_pos hw]
    · rw [if_neg (fun z => hw ((bit_s1 _ (by omega)).mp z)), if_neg hw]
  unfold ntd
  rw [hb, hb, hb]
  unfold m_isAllowed_J298 m_isAllowed_J327 m_isAllowed_J328 m_isAllowed_J359 m_isAllowed_J360 m_isAllowed_J391 m_isAllowed_J392
  simp only [i0.1, i0.2, i1.1, i1.2, i2.1, i2.2, h0, h1, h2, if_true, bs]
  cases bt (nI (v 0)) j <;> cases bt (nI (v 1)) j <;> cases bt (nI (v 2)) j <;> rfl
def rwC (S : CS) (R : Nat) (x1 x2 x3 x4 x5 : Int32) (n : Nat) : CS := pI (pI (pI (pI (pI (pI S R 0 x1) R 1 x2) R 2 x3) R 3 x4) R 4 x5) 252 1 (nI (n + 1))
def rwM (M : MS) (a : Nat) (x1 x2 x3 x4 x5 : Int32) (n : Nat) : MS := pI (pI (pI (pI (pI (pI M 30 a x1) 30 (a + 1) x2) 30 (a + 2) x3) 30 (a + 3) x4) 30 (a + 4) x5) 0 46 (nI (n + 1))
theorem add_log {x1 x2 x3 x4 : Int32} {g : Bool} (hn : n < 2000) (e : gI S 252 1 = nI n) : cNoteLog_add x1 x2 x3 x4 g S = some (rwC S (254 + n % 8) x1 x2 x3 x4 (bI g) n) := by
  unfold cNoteLog_add
  rw [e, fmd8 (by omega), Option.bind_some]
  have r : ∀ T : CS, ∀ v, gI (pI T (254 + n % 8) 4 v) 252 1 = gI T 252 1 := fun T v => by (repeat (first | rw [gI_same] | rw [gI_other _ _ (by omega)] | rw [gI_pL] | rw [gI_pB] | rw [gI_pR]))
  have r0 : gI (pI (pI (pI (pI S (254 + n % 8) 0 x1) (254 + n % 8) 1 x2) (254 + n % 8) 2 x3) (254 + n % 8) 3 x4) 252 1 = nI n := by (repeat (first | rw [gI_same] | rw [gI_other _ _ (by omega)] | rw [gI_pL] | rw [gI_pB] | rw [gI_pR])); exact e
  simp only [bd, inb_nI (show n % 8 < 8 by omega) (show 8 < 2 ^ 31 by omega), if_true, tx_nI (show n % 8 < 2 ^ 31 by omega), show 253 + (1 + n % 8) = 254 + n % 8 by omega, show inbd 0 5 = true by decide, show inbd 1 5 = true by decide, show inbd 2 5 = true by decide, show inbd 3 5 = true by decide, show txN 0 = 0 by decide, show txN 1 = 1 by decide, show txN 2 = 2 by decide, show txN 3 = 3 by decide]
  cases g with
  | true =>
    simp only [if_true, cNoteLog_add_J50, bd, show inbd 4 5 = true by decide, show txN 4 = 4 by decide, r, r0, nI_1, rwC]
  | false =>
    simp only [Bool.false_eq_true, if_false, if_true, cNoteLog_add_J50, bd, show inbd 4 5 = true by decide, show txN 4 = 4 by decide, r, r0, nI_1, rwC]
theorem j412 {x1 x2 x3 x4 : Int32} {g : Bool} (hn : n < 2000) (e : gI M 0 46 = nI n) : m_isAllowed_J412 x1 x2 x3 x4 g M = some (rwM M (5 * (n % 8)) x1 x2 x3 x4 (bI g) n, g) := by
  have ha : (5 : Int32) * nI (n % 8) = nI (5 * (n % 8)) := nI_mul 5 _
  have hi : ∀ j, j < 5 → inbd (nI (5 * (n % 8)) + nI j) 40 = true ∧ txN (nI (5 * (n % 8)) + nI j) = 5 * (n % 8) + j := fun j hj => by
    rw [nI_add]
    exact ⟨inb_nI (by omega) (by omega), tx_nI (by omega)⟩
  have h0 : inbd (nI (5 * (n % 8))) 40 = true := inb_nI (by omega) (by omega)
  have h1 := hi 1 (by omega)
  have h2 := hi 2 (by omega)
  have h3 := hi 3 (by omega)
  have h4 := hi 4 (by omega)
  rw [show nI 1 = 1 from rfl] at h1
  rw [show nI 2 = 2 from rfl] at h2
  rw [show nI 3 = 3 from rfl] at h3
  rw [show nI 4 = 4 from rfl] at h4
  have r0 : ∀ x5, gI (pI (pI (pI (pI (pI M 30 (5 * (n % 8)) x1) 30 (5 * (n % 8) + 1) x2) 30 (5 * (n % 8) + 2) x3) 30 (5 * (n % 8) + 3) x4) 30 (5 * (n % 8) + 4) x5) 0 46 = nI n := fun x5 => by (repeat (first | rw [gI_same] | rw [gI_other _ _ (by omega)] | rw [gI_pL] | rw [gI_pB] | rw [gI_pR])); exact e
  unfold m_isAllowed_J412
  simp only [bd, e, nI_m8 (show n < 2 ^ 31 by omega), ha, h0, if_true, tx_nI (show 5 * (n % 8) < 2 ^ 31 by omega), h1.1, h1.2, h2.1, h2.2, h3.1, h3.2]
  cases g with
  | true => simp only [if_true, m_isAllowed_J480, h4.1, h4.2, bd, r0, nI_1, rwM]
  | false => simp only [Bool.false_eq_true, if_false, if_true, m_isAllowed_J480, h4.1, h4.2, bd, r0, nI_1, rwM]
theorem LoR.add (h : ∀ i j, i < 8 → j < 5 → gI S (254 + i) j = gI M 30 (5 * i + j)) (hm : n + 1 ≤ m) {x1 x2 x3 x4 x5 : Int32} : LoR (rwC S (254 + n % 8) x1 x2 x3 x4 x5 n) (rwM M (5 * (n % 8)) x1 x2 x3 x4 x5 n) m := by
  refine ⟨n + 1, hm, ?_, ?_, fun i j hi hj => ?_⟩
  · unfold rwC; (repeat (first | rw [gI_same] | rw [gI_other _ _ (by omega)] | rw [gI_pL] | rw [gI_pB] | rw [gI_pR]))
  · unfold rwM; (repeat (first | rw [gI_same] | rw [gI_other _ _ (by omega)] | rw [gI_pL] | rw [gI_pB] | rw [gI_pR]))
  · unfold rwC rwM
    by_cases e : i = n % 8
    · subst e
      have : j = 0 ∨ j = 1 ∨ j = 2 ∨ j = 3 ∨ j = 4 := by omega
      rcases this with rfl | rfl | rfl | rfl | rfl
      · show _ = gI _ 30 (5 * (n % 8))
        (repeat (first | rw [gI_same] | rw [gI_other _ _ (by omega)] | rw [gI_pL] | rw [gI_pB] | rw [gI_pR]))
      · (repeat (first | rw [gI_same] | rw [gI_other _ _ (by omega)] | rw [gI_pL] | rw [gI_pB] | rw [gI_pR]))
      · (repeat (first | rw [gI_same] | rw [gI_other _ _ (by omega)] | rw [gI_pL] | rw [gI_pB] | rw [gI_pR]))
      · (repeat (first | rw [gI_same] | rw [gI_other _ _ (by omega)] | rw [gI_pL] | rw [gI_pB] | rw [gI_pR]))
      · (repeat (first | rw [gI_same] | rw [gI_other _ _ (by omega)] | rw [gI_pL] | rw [gI_pB] | rw [gI_pR]))
    · (repeat (first | rw [gI_same] | rw [gI_other _ _ (by omega)] | rw [gI_pL] | rw [gI_pB] | rw [gI_pR]))
      exact h i j hi hj
end IGE
