def kdL : List Nat := [0, 1, 2, 3, 4, 5, 6, 7, 8, 9, 8, 9, 8, 9, 8, 9, 10, 11, 12, 13, 8, 9, 8, 9, 8, 9, 8, 9, 14, 15, 15, 16, 14, 15, 15, 16, 14, 15, 15, 16, 14, 15, 15, 16, 14, 15, 15, 16, 14, 15, 15, 16, 14, 15, 15, 16, 14, 15, 15, 16, 14, 15, 15, 16, 14, 15, 15, 16, 14, 15, 15, 16, 14, 15, 15, 16, 14, 15, 15, 16, 14, 15, 15, 16, 14, 15, 15, 16, 14, 15, 15, 16, 14, 15, 15, 16, 14, 15, 15, 16, 14, 15, 15, 16, 14, 15, 15, 16, 14, 15, 15, 16, 14, 15, 15, 16, 14, 15, 15, 16, 14, 15, 15, 16, 7, 8, 9, 8, 9, 8, 9, 8, 9, 10, 11, 12, 13, 8, 9, 8, 9, 8, 9, 8, 9, 14, 15, 15, 16, 14, 15, 15, 16, 14, 15, 15, 16, 14, 15, 15, 16, 14, 15, 15, 16, 14, 15, 15, 16, 14, 15, 15, 16, 14, 15, 15, 16, 14, 15, 15, 16, 14, 15, 15, 16, 14, 15, 15, 16, 14, 15, 15, 16, 14, 15, 15, 16, 14, 15, 15, 16, 14, 15, 15, 16, 14, 15, 15, 16, 14, 15, 15, 16, 14, 15, 15, 16, 14, 15, 15, 16, 14, 15, 15, 16, 14, 15, 15, 16, 14, 15, 15, 16, 14, 15, 15, 16, 14, 15, 15, 16, 17, 18, 19, 20, 21, 22, 22, 22, 22, 22, 22, 23, 24, 25, 25, 25, 25, 25, 25, 25, 25]
def kd (k : Nat) : Nat := kdL.getD k 99
def lnL : List Nat := [0, 0, 0, 0, 0, 0, 0, 0, 0, 12, 0, 4, 0, 4, 0, 3, 0, 0, 0, 0, 0, 8, 0, 8, 0, 8, 0, 8, 0, 0, 0, 0, 0, 0, 0, 0, 0, 0, 0, 0, 0, 0, 0, 0, 0, 0, 0, 0, 0, 0, 0, 0, 0, 0, 0, 0, 0, 0, 0, 0, 0, 0, 0, 0, 0, 0, 0, 0, 0, 0, 0, 0, 0, 0, 0, 0, 0, 0, 0, 0, 0, 0, 0, 0, 0, 0, 0, 0, 0, 0, 0, 0, 0, 0, 0, 0, 0, 0, 0, 0, 0, 0, 0, 0, 0, 0, 0, 0, 0, 0, 0, 0, 0, 0, 0, 0, 0, 0, 0, 0, 0, 0, 0, 0, 0, 0, 12, 0, 4, 0, 4, 0, 3, 0, 0, 0, 0, 0, 8, 0, 8, 0, 8, 0, 8, 0, 0, 0, 0, 0, 0, 0, 0, 0, 0, 0, 0, 0, 0, 0, 0, 0, 0, 0, 0, 0, 0, 0, 0, 0, 0, 0, 0, 0, 0, 0, 0, 0, 0, 0, 0, 0, 0, 0, 0, 0, 0, 0, 0, 0, 0, 0, 0, 0, 0, 0, 0, 0, 0, 0, 0, 0, 0, 0, 0, 0, 0, 0, 0, 0, 0, 0, 0, 0, 0, 0, 0, 0, 0, 0, 0, 0, 0, 0, 0, 0, 0, 0, 0, 0, 0, 0, 0, 0, 0, 0, 0, 0, 0, 0, 0, 0, 0, 0, 0, 0, 0, 0, 0, 0, 0, 0, 0, 0, 0, 0, 0, 0, 0, 0, 0, 0]
def ln (k : Nat) : Nat := lnL.getD k 0
def kdML : List Nat := [0, 1, 1, 2, 2, 2, 2, 2, 1, 1, 3, 1, 1, 1, 1, 1, 1, 1, 3, 3, 1, 1, 1, 2, 2, 2, 1, 1, 1, 1, 1]
def kdM (k : Nat) : Nat := kdML.getD k 99
def lnML : List Nat := [0, 480, 10, 24, 8, 8, 64, 6, 24, 8, 6, 48, 48, 48, 48, 48, 48, 48, 48, 48, 192, 96, 96, 6, 10, 10, 6, 6, 18, 6, 40]
def lnM (k : Nat) : Nat := lnML.getD k 0
theorem kdL_len : kdL.length = 262 := by decide +kernel
theorem kdML_len : kdML.length = 31 := by decide +kernel
theorem kd_lt {k a : Nat} (h : kd k = a) (ha : a ≠ 99) : k < 262 := by
  rcases Nat.lt_or_ge k 262 with h1 | h1
  · exact h1
  · exfalso; apply ha; rw [← h]; unfold kd; rw [List.getD_eq_getElem?_getD, List.getElem?_eq_none (by rw [kdL_len]; exact h1)]; rfl
theorem kdM_lt {k a : Nat} (h : kdM k = a) (ha : a ≠ 99) : k < 31 := by
  rcases Nat.lt_or_ge k 31 with h1 | h1
  · exact h1
  · exfalso; apply ha; rw [← h]; unfold kdM; rw [List.getD_eq_getElem?_getD, List.getElem?_eq_none (by rw [kdML_len]; exact h1)]; rfl
theorem kd_all {P : Nat → Bool} (h : (List.range 262).all P = true) {k a : Nat} (hk : kd k = a) (ha : a ≠ 99) : P k = true := List.all_eq_true.mp h k (List.mem_range.mpr (kd_lt hk ha))
theorem kx_7_1 {k : Nat} (h : kd k = 7) : kd (k + 1) = 8 := by
  have h1 := kd_all (P := fun k => decide (kd k = 7 → kd (k + 1) = 8)) (by decide +kernel) h (by decide)
  exact (of_decide_eq_true h1) h
theorem kx_7_3 {k : Nat} (h : kd k = 7) : kd (k + 3) = 8 := by
  have h1 := kd_all (P := fun k => decide (kd k = 7 → kd (k + 3) = 8)) (by decide +kernel) h (by decide)
  exact (of_decide_eq_true h1) h
theorem kx_7_5 {k : Nat} (h : kd k = 7) : kd (k + 5) = 8 := by
  have h1 := kd_all (P := fun k => decide (kd k = 7 → kd (k + 5) = 8)) (by decide +kernel) h (by decide)
  exact (of_decide_eq_true h1) h
theorem kx_7_7 {k : Nat} (h : kd k = 7) : kd (k + 7) = 8 := by
  have h1 := kd_all (P := fun k => decide (kd k = 7 → kd (k + 7) = 8)) (by decide +kernel) h (by decide)
  exact (of_decide_eq_true h1) h
theorem kx_7_9 {k : Nat} (h : kd k = 7) : kd (k + 9) = 10 := by
  have h1 := kd_all (P := fun k => decide (kd k = 7 → kd (k + 9) = 10)) (by decide +kernel) h (by decide)
  exact (of_decide_eq_true h1) h
theorem kx_7_10 {k : Nat} (h : kd k = 7) : kd (k + 10) = 11 := by
  have h1 := kd_all (P := fun k => decide (kd k = 7 → kd (k + 10) = 11)) (by decide +kernel) h (by decide)
  exact (of_decide_eq_true h1) h
theorem kx_7_11 {k : Nat} (h : kd k = 7) : kd (k + 11) = 12 := by
  have h1 := kd_all (P := fun k => decide (kd k = 7 → kd (k + 11) = 12)) (by decide +kernel) h (by decide)
  exact (of_decide_eq_true h1) h
theorem kx_7_12 {k : Nat} (h : kd k = 7) : kd (k + 12) = 13 := by
  have h1 := kd_all (P := fun k => decide (kd k = 7 → kd (k + 12) = 13)) (by decide +kernel) h (by decide)
  exact (of_decide_eq_true h1) h
theorem kx_8_1 {k : Nat} (h : kd k = 8) : kd (k + 1) = 9 := by
  have h1 := kd_all (P := fun k => decide (kd k = 8 → kd (k + 1) = 9)) (by decide +kernel) h (by decide)
  exact (of_decide_eq_true h1) h
theorem kx_14_1 {k : Nat} (h : kd k = 14) : kd (k + 1) = 15 := by
  have h1 := kd_all (P := fun k => decide (kd k = 14 → kd (k + 1) = 15)) (by decide +kernel) h (by decide)
  exact (of_decide_eq_true h1) h
theorem kx_14_2 {k : Nat} (h : kd k = 14) : kd (k + 2) = 15 := by
  have h1 := kd_all (P := fun k => decide (kd k = 14 → kd (k + 2) = 15)) (by decide +kernel) h (by decide)
  exact (of_decide_eq_true h1) h
theorem kx_14_3 {k : Nat} (h : kd k = 14) : kd (k + 3) = 16 := by
  have h1 := kd_all (P := fun k => decide (kd k = 14 → kd (k + 3) = 16)) (by decide +kernel) h (by decide)
  exact (of_decide_eq_true h1) h
theorem ke_10 {k j : Nat} (h : kd k = 10) (hj : j < 4) : kd (k + (4 + 2 * j)) = 8 := by
  have h1 := kd_all (P := fun k => (!decide (kd k = 10)) || (List.range 4).all (fun j => decide (kd (k + (4 + 2 * j)) = 8))) (by decide +kernel) h (by decide)
  simp only [h, decide_true, Bool.not_true, Bool.false_or] at h1
  exact of_decide_eq_true (List.all_eq_true.mp h1 j (List.mem_range.mpr hj))
theorem ke_13 {k j : Nat} (h : kd k = 13) (hj : j < 24) : kd (k + (9 + 4 * j)) = 14 := by
  have h1 := kd_all (P := fun k => (!decide (kd k = 13)) || (List.range 24).all (fun j => decide (kd (k + (9 + 4 * j)) = 14))) (by decide +kernel) h (by decide)
  simp only [h, decide_true, Bool.not_true, Bool.false_or] at h1
  exact of_decide_eq_true (List.all_eq_true.mp h1 j (List.mem_range.mpr hj))
theorem ke_21 {k j : Nat} (h : kd k = 21) (hj : j < 6) : kd (k + (1 + j)) = 22 := by
  have h1 := kd_all (P := fun k => (!decide (kd k = 21)) || (List.range 6).all (fun j => decide (kd (k + (1 + j)) = 22))) (by decide +kernel) h (by decide)
  simp only [h, decide_true, Bool.not_true, Bool.false_or] at h1
  exact of_decide_eq_true (List.all_eq_true.mp h1 j (List.mem_range.mpr hj))
theorem ke_24 {k j : Nat} (h : kd k = 24) (hj : j < 8) : kd (k + (1 + j)) = 25 := by
  have h1 := kd_all (P := fun k => (!decide (kd k = 24)) || (List.range 8).all (fun j => decide (kd (k + (1 + j)) = 25))) (by decide +kernel) h (by decide)
  simp only [h, decide_true, Bool.not_true, Bool.false_or] at h1
  exact of_decide_eq_true (List.all_eq_true.mp h1 j (List.mem_range.mpr hj))
def cC (cA : Nat → ClassId) (b : Nat) (ad : Nat → Nat) (S : CS) (k : Nat) : va_E := match kd k with
  | 0 => .inr (0, [.ref (b + (k + 1)), .int (gI S k 1), .ref (b + (k + 2)), .ref (b + gR S k 3), .int (gI S k 4), .ref (b + (k + 241)), .ref (b + (k + 242)), .ref (b + (k + 243)), .ref (b + (k + 244)), .ref (b + (k + 252))])
  | 1 => .inl (cA 2, 480, .inl (gI S k))
  | 2 => .inr (1, [.ref (b + (k + 1)), .ref (b + gR S k 1), .int (gI S k 2), .int (gI S k 3), .int (gI S k 4), .int (bI (gB S k 5))])
  | 3 => .inr (2, [.ref (b + (k + 1)), .ref (b + (k + 2)), .ref (b + (k + 3)), .int (gI S k 3), .int (gI S k 4)])
  | 4 => .inl (cA 2, 481, .inl (gI S k))
  | 5 => .inl (cA 0, 481, .inl (gI S k))
  | 6 => .inl (cA 1, 481, .inr (.inl (gL S k)))
  | 7 => .inr (3, [.ref (b + (k + 1)), .ref (b + (k + 3)), .ref (b + (k + 5)), .ref (b + (k + 7)), .ref (b + (k + 9)), .ref (b + (k + 10)), .ref (b + (k + 11)), .ref (b + (k + 12)), .int (gI S k 8)])
  | 8 => .inr (4, [.ref (b + (k + 1)), .int (gI S k 1)])
  | 9 => .inl (cA 1, ln k, .inr (.inl (gL S k)))
  | 10 => .inl (cA 4, 4, .inr (.inr (.inr (.inr (fun j => some (b + (k + (4 + 2 * j))))))))
  | 11 => .inl (cA 0, 4, .inl (gI S k))
  | 12 => .inl (cA 3, 3, .inl (fun j => bI (gB S k j)))
  | 13 => .inl (cA 5, 24, .inr (.inr (.inr (.inr (fun j => some (b + (k + (9 + 4 * j))))))))
  | 14 => .inr (5, [.ref (ad (gR S k 0)), .int (gI S k 1), .int (gI S k 2), .int (bI (gB S k 3)), .ref (b + (k + 1)), .ref (b + (k + 2)), .int (bI (gB S k 6)), .int (gI S k 7), .int (gI S k 8), .int (gI S k 9), .ref (b + (k + 3)), .int (gI S k 11)])
  | 15 => .inr (6, [.int (bI (gB S k 0)), .int (bI (gB S k 1)), .int (gI S k 2), .int (gI S k 3), .int (gI S k 4), .int (gI S k 5)])
  | 16 => .inl (cA 0, 4, .inl (gI S k))
  | 17 => .inl (cA 1, 6, .inr (.inl (gL S k)))
  | 18 => .inl (cA 1, 10, .inr (.inl (gL S k)))
  | 19 => .inl (cA 1, 10, .inr (.inl (gL S k)))
  | 20 => .inr (8, [.ref (b + (k + 1)), .int (gI S k 1), .int (gI S k 2), .int (gI S k 3), .int (gI S k 4)])
  | 21 => .inl (cA 6, 6, .inr (.inr (.inr (.inr (fun j => some (b + (k + (1 + j))))))))
  | 22 => .inr (7, [.int (gI S k 0), .int (gI S k 1), .int (gI S k 2), .int (gI S k 3), .int (gI S k 4), .int (gI S k 5), .int (gI S k 6), .int (gI S k 7)])
  | 23 => .inr (9, [.ref (b + (k + 1)), .int (gI S k 1)])
  | 24 => .inl (cA 7, 8, .inr (.inr (.inr (.inr (fun j => some (b + (k + (1 + j))))))))
  | 25 => .inl (cA 0, 5, .inl (gI S k))
  | _ => .inr (0, [])
def cM (cA : Nat → ClassId) (b : Nat) (S : MS) (k : Nat) : va_E := match kdM k with
  | 0 => .inr (10, [.int (gI S k 0), .ref (b + 263), .int (gI S k 2), .int (gI S k 3), .int (gI S k 4), .int (gI S k 5), .int (gI S k 6), .int (gI S k 7), .int (gI S k 8), .int (gI S k 9), .int (gI S k 10), .long (gL S k 11), .int (gI S k 12), .ref (b + 264), .ref (b + 265), .ref (b + 266), .ref (b + 267), .ref (b + 268), .ref (b + 269), .ref (b + 270), .ref (b + 271), .ref (b + 272), .ref (b + 273), .ref (b + 274), .ref (b + 275), .ref (b + 276), .ref (b + 277), .ref (b + 278), .ref (b + 279), .ref (b + 280), .ref (b + 281), .ref (b + 282), .ref (b + 283), .ref (b + 284), .int (gI S k 34), .ref (b + 285), .ref (b + 286), .ref (b + 287), .ref (b + 288), .ref (b + 289), .ref (b + 290), .ref (b + 291), .int (gI S k 42), .int (gI S k 43), .int (gI S k 44), .int (gI S k 45), .int (gI S k 46), .ref (b + 292)])
  | 1 => .inl (cA 0, lnM k, .inl (gI S k))
  | 2 => .inl (cA 1, lnM k, .inr (.inl (gL S k)))
  | 3 => .inl (cA 3, lnM k, .inl (fun j => bI (gB S k j)))
  | _ => .inr (0, [])
def cS (cA : Nat → ClassId) (b : Nat) (ad : Nat → Nat) (S : ST) (k : Nat) : va_E :=
  if k < 262 then cC cA b ad S.1 k else if k < 293 then cM cA b S.2.1 (k - 262) else .inl (cA 1, 1, .inr (.inl S.2.2))
def wO (cA : Nat → ClassId) (b : Nat) (ad : Nat → Nat) (S : ST) : va_W := (List.range 294).map fun k => (b + k, cS cA b ad S k)
def hp (D : va_G) (cA : Nat → ClassId) (b : Nat) (ad : Nat → Nat) (S : ST) (H : Heap) : Prop := va_P D kCl (wO cA b ad S) H
theorem wO_at (cA : Nat → ClassId) (b : Nat) (ad : Nat → Nat) (S : ST) {k : Nat} (hk : k < 294) : (wO cA b ad S)[k]? = some (b + k, cS cA b ad S k) := by
  unfold wO
  rw [List.getElem?_map, List.getElem?_range hk]
  rfl
theorem wO_len (cA : Nat → ClassId) (b : Nat) (ad : Nat → Nat) (S : ST) : (wO cA b ad S).length = 294 := by
  unfold wO
  rw [List.length_map, List.length_range]
theorem wO_D (cA : Nat → ClassId) (b : Nat) (ad : Nat → Nat) (S : ST) : va_D (Ab b) (wO cA b ad S) := by
  have key : ∀ (k : Nat) (q : Nat × va_E), (wO cA b ad S)[k]? = some q → q.1 = b + k := by
    intro k q hq
    have hl := (List.getElem?_eq_some_iff.mp hq).1
    rw [wO_len] at hl
    rw [wO_at cA b ad S hl] at hq
    cases hq
    rfl
  refine ⟨fun i j x y hi hj hxy => ?_, fun k q hq => ?_⟩
  · have h1 := key i x hi
    have h2 := key j y hj
    omega
  · have h1 := key k q hq
    show b ≤ q.1
    omega
theorem wO_set {cA : Nat → ClassId} {b : Nat} {ad : Nat → Nat} {S S' : ST} {k : Nat} {e : va_E} (hk : k < 294) (he : cS cA b ad S' k = e) (ho : ∀ j, j ≠ k → cS cA b ad S' j = cS cA b ad S j) : (wO cA b ad S).set k (b + k, e) = wO cA b ad S' := by
  apply List.ext_getElem?
  intro i
  by_cases hi : i < 294
  · by_cases hik : i = k
    · subst hik
      rw [List.getElem?_set_self (by rw [wO_len]; exact hi), wO_at _ _ _ _ hi, he]
    · rw [List.getElem?_set_ne (Ne.symm hik), wO_at _ _ _ _ hi, wO_at _ _ _ _ hi, ho i hik]
  · rw [List.getElem?_eq_none (by rw [List.length_set, wO_len]; omega), List.getElem?_eq_none (by rw [wO_len]; omega)]
theorem cS_c {cA : Nat → ClassId} {b : Nat} {ad : Nat → Nat} {S : CS} {T : MS × (Nat → Int64)} {k : Nat} (hk : k < 262) : cS cA b ad (S, T) k = cC cA b ad S k := if_pos hk
theorem cS_m {cA : Nat → ClassId} {b : Nat} {ad : Nat → Nat} {T : CS} {S : MS} {o : Nat → Int64} {k : Nat} (hk : k < 31) : cS cA b ad (T, S, o) (262 + k) = cM cA b S k := by
  unfold cS
  rw [if_neg (by omega), if_pos (by omega), Nat.add_sub_cancel_left]
theorem cS_oc {cA : Nat → ClassId} {b : Nat} {ad : Nat → Nat} {S S' : CS} {T : MS × (Nat → Int64)} {k : Nat} (h : ∀ j, j ≠ k → cC cA b ad S' j = cC cA b ad S j) : ∀ j, j ≠ k → cS cA b ad (S', T) j = cS cA b ad (S, T) j := by
  intro j hj
  unfold cS
  split
  · exact h j hj
  · rfl
theorem cS_om {cA : Nat → ClassId} {b : Nat} {ad : Nat → Nat} {T : CS} {S S' : MS} {o : Nat → Int64} {k : Nat} (h : ∀ j, j ≠ k → cM cA b S' j = cM cA b S j) : ∀ j, j ≠ 262 + k → cS cA b ad (T, S', o) j = cS cA b ad (T, S, o) j := by
  intro j hj
  unfold cS
  split
  · rfl
  · split
    · exact h _ (by omega)
    · rfl
theorem hp_set {D : va_G} {cA : Nat → ClassId} {b : Nat} {ad : Nat → Nat} {S S' : ST} {k : Nat} {E : va_E} {H : Heap} (hP : va_P D kCl ((wO cA b ad S).set k (b + k, E)) H) (hk : k < 294) (he : cS cA b ad S' k = E) (ho : ∀ j, j ≠ k → cS cA b ad S' j = cS cA b ad S j) : hp D cA b ad S' H := by
  unfold hp
  rw [← wO_set hk he ho]
  exact hP
theorem ag_Z (f : Nat → Bool) (i : Nat) (v : Bool) : (fun j => bI (va_up f i v j)) = upd (fun j => bI (f j)) i (bI v) := by
  funext j
  unfold va_up upd
  split <;> rfl
theorem pI_at (S : CS) (k j : Nat) (v : Int32) : gI (pI S k j v) k = va_up (gI S k) j v := by
  funext x
  unfold gI pI va_up
  simp
theorem pI_ne (S : CS) {k a : Nat} (j : Nat) (v : Int32) (h : a ≠ k) : gI (pI S k j v) a = gI S a := by
  unfold gI pI
  simp only [va_up, if_neg h]
theorem pI_gL (S : CS) (k j : Nat) (v : Int32) (a : Nat) : gL (pI S k j v) a = gL S a := rfl
theorem pI_gR (S : CS) (k j : Nat) (v : Int32) (a : Nat) : gR (pI S k j v) a = gR S a := rfl
theorem pI_gB (S : CS) (k j : Nat) (v : Int32) (a : Nat) : gB (pI S k j v) a = gB S a := rfl
theorem cC_pI (cA : Nat → ClassId) (b : Nat) (ad : Nat → Nat) (S : CS) (k j : Nat) (v : Int32) : ∀ a, a ≠ k → cC cA b ad (pI S k j v) a = cC cA b ad S a := by
  intro a h
  unfold cC
  split <;> simp only [pI_ne S j v h, pI_gL, pI_gR, pI_gB]
theorem cM_pI (cA : Nat → ClassId) (b : Nat) (S : CS) (k j : Nat) (v : Int32) : ∀ a, a ≠ k → cM cA b (pI S k j v) a = cM cA b S a := by
  intro a h
  unfold cM
  split <;> simp only [pI_ne S j v h, pI_gL, pI_gR, pI_gB]
theorem pL_at (S : CS) (k j : Nat) (v : Int64) : gL (pL S k j v) k = va_up (gL S k) j v := by
  funext x
  unfold gL pL va_up
  simp
theorem pL_ne (S : CS) {k a : Nat} (j : Nat) (v : Int64) (h : a ≠ k) : gL (pL S k j v) a = gL S a := by
  unfold gL pL
  simp only [va_up, if_neg h]
theorem pL_gI (S : CS) (k j : Nat) (v : Int64) (a : Nat) : gI (pL S k j v) a = gI S a := rfl
theorem pL_gR (S : CS) (k j : Nat) (v : Int64) (a : Nat) : gR (pL S k j v) a = gR S a := rfl
theorem pL_gB (S : CS) (k j : Nat) (v : Int64) (a : Nat) : gB (pL S k j v) a = gB S a := rfl
theorem cC_pL (cA : Nat → ClassId) (b : Nat) (ad : Nat → Nat) (S : CS) (k j : Nat) (v : Int64) : ∀ a, a ≠ k → cC cA b ad (pL S k j v) a = cC cA b ad S a := by
  intro a h
  unfold cC
  split <;> simp only [pL_ne S j v h, pL_gI, pL_gR, pL_gB]
theorem cM_pL (cA : Nat → ClassId) (b : Nat) (S : CS) (k j : Nat) (v : Int64) : ∀ a, a ≠ k → cM cA b (pL S k j v) a = cM cA b S a := by
  intro a h
  unfold cM
  split <;> simp only [pL_ne S j v h, pL_gI, pL_gR, pL_gB]
theorem pR_at (S : CS) (k j : Nat) (v : Nat) : gR (pR S k j v) k = va_up (gR S k) j v := by
  funext x
  unfold gR pR va_up
  simp
theorem pR_ne (S : CS) {k a : Nat} (j : Nat) (v : Nat) (h : a ≠ k) : gR (pR S k j v) a = gR S a := by
  unfold gR pR
  simp only [va_up, if_neg h]
theorem pR_gI (S : CS) (k j : Nat) (v : Nat) (a : Nat) : gI (pR S k j v) a = gI S a := rfl
theorem pR_gL (S : CS) (k j : Nat) (v : Nat) (a : Nat) : gL (pR S k j v) a = gL S a := rfl
theorem pR_gB (S : CS) (k j : Nat) (v : Nat) (a : Nat) : gB (pR S k j v) a = gB S a := rfl
theorem cC_pR (cA : Nat → ClassId) (b : Nat) (ad : Nat → Nat) (S : CS) (k j : Nat) (v : Nat) : ∀ a, a ≠ k → cC cA b ad (pR S k j v) a = cC cA b ad S a := by
  intro a h
  unfold cC
  split <;> simp only [pR_ne S j v h, pR_gI, pR_gL, pR_gB]
theorem pB_at (S : CS) (k j : Nat) (v : Bool) : gB (pB S k j v) k = va_up (gB S k) j v := by
  funext x
  unfold gB pB va_up
  simp
theorem pB_ne (S : CS) {k a : Nat} (j : Nat) (v : Bool) (h : a ≠ k) : gB (pB S k j v) a = gB S a := by
  unfold gB pB
  simp only [va_up, if_neg h]
theorem pB_gI (S : CS) (k j : Nat) (v : Bool) (a : Nat) : gI (pB S k j v) a = gI S a := rfl
theorem pB_gL (S : CS) (k j : Nat) (v : Bool) (a : Nat) : gL (pB S k j v) a = gL S a := rfl
theorem pB_gR (S : CS) (k j : Nat) (v : Bool) (a : Nat) : gR (pB S k j v) a = gR S a := rfl
theorem cC_pB (cA : Nat → ClassId) (b : Nat) (ad : Nat → Nat) (S : CS) (k j : Nat) (v : Bool) : ∀ a, a ≠ k → cC cA b ad (pB S k j v) a = cC cA b ad S a := by
  intro a h
  unfold cC
  split <;> simp only [pB_ne S j v h, pB_gI, pB_gL, pB_gR]
theorem cM_pB (cA : Nat → ClassId) (b : Nat) (S : CS) (k j : Nat) (v : Bool) : ∀ a, a ≠ k → cM cA b (pB S k j v) a = cM cA b S a := by
  intro a h
  unfold cM
  split <;> simp only [pB_ne S j v h, pB_gI, pB_gL, pB_gR]
