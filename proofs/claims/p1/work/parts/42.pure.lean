/-! the policy, and where it stands -/
theorem nI_mul (a b : Nat) : nI a * nI b = nI (a * b) := (Int32.ofNat_mul a b).symm
def pcl (β : Nat) : Nat := if β = 0 then 124 else 7
theorem pcl_7 (β : Nat) : kd (pcl β) = 7 := by
  unfold pcl
  split <;> decide
def isNum (n : Nat) (x : Int32) : Bool := (!decide (x < 0)) && !decide (nI n ≤ x)
theorem isNum_t {n : Nat} {x : Int32} (hn : n < 2 ^ 31) (h : isNum n x = true) : ∃ j, j < n ∧ x = nI j := by
  unfold isNum at h
  rw [Bool.and_eq_true, Bool.not_eq_true', Bool.not_eq_true', decide_eq_false_iff_not, decide_eq_false_iff_not] at h
  obtain ⟨j, hj, rfl⟩ := nI_of h.1
  exact ⟨j, Nat.not_le.mp (fun q => h.2 (nI_le q hj)), rfl⟩
theorem isNum_nI {n j : Nat} (hn : n < 2 ^ 31) (h : j < n) : isNum n (nI j) = true := by
  unfold isNum
  rw [Bool.and_eq_true, Bool.not_eq_true', Bool.not_eq_true', decide_eq_false_iff_not, decide_eq_false_iff_not]
  exact ⟨nI_pos (by omega), nI_ge h (by omega)⟩
theorem hn_eq {S : CS} {k n : Nat} (h : gI S k 1 = nI n) (x : Int32) : cNames_hasNumber k x S = some (isNum n x) := by
  unfold cNames_hasNumber isNum
  rw [h]
  by_cases h1 : x < 0
  · simp [h1]
  · by_cases h2 : nI n ≤ x <;> simp [h1, h2]
abbrev RuR (S : CS) (M : MS) (k r nt nb : Nat) : Prop := (∃ w, w < 5 ∧ gR S k 0 = w + 5 ∧ gI M 11 r = nI w) ∧ (∃ p, p ≤ 480 ∧ gI S k 1 = nI p ∧ gI M 12 r = nI p) ∧ ((gI S k 2 = -1 ∧ gI M 13 r = -1) ∨ ∃ c, c < nb ∧ gI S k 2 = nI c ∧ gI M 13 r = nI c ∧ gB S k 3 = !gB M 18 r) ∧ (gB S k 6 = gB M 19 r) ∧ (gI S k 7 = gI M 14 r) ∧ (gB S k 6 = false → gI S k 8 = gI M 15 r) ∧ (gI S k 9 = gI M 16 r) ∧ (∀ c, c < 4 → ∃ v, v < 256 ∧ gI S (k + 3) c = nI v ∧ gI M 20 (4 * r + c) = nI v ∧ (bt (gI S k 9) c = false → v = 0)) ∧ (gI M 11 r = nI 4 → ∃ t, t < nt ∧ gI S k 11 = nI t ∧ gI M 17 r = nI t)
theorem RuR.kind {S : CS} {M : MS} {k r nt nb : Nat} (zh : RuR S M k r nt nb) : ∃ w, w < 5 ∧ gR S k 0 = w + 5 ∧ gI M 11 r = nI w := zh.1
theorem RuR.place {S : CS} {M : MS} {k r nt nb : Nat} (zh : RuR S M k r nt nb) : ∃ p, p ≤ 480 ∧ gI S k 1 = nI p ∧ gI M 12 r = nI p := zh.2.1
theorem RuR.cond {S : CS} {M : MS} {k r nt nb : Nat} (zh : RuR S M k r nt nb) : (gI S k 2 = -1 ∧ gI M 13 r = -1) ∨ ∃ c, c < nb ∧ gI S k 2 = nI c ∧ gI M 13 r = nI c ∧ gB S k 3 = !gB M 18 r := zh.2.2.1
theorem RuR.self {S : CS} {M : MS} {k r nt nb : Nat} (zh : RuR S M k r nt nb) : gB S k 6 = gB M 19 r := zh.2.2.2.1
theorem RuR.src {S : CS} {M : MS} {k r nt nb : Nat} (zh : RuR S M k r nt nb) : gI S k 7 = gI M 14 r := zh.2.2.2.2.1
theorem RuR.tgt {S : CS} {M : MS} {k r nt nb : Nat} (zh : RuR S M k r nt nb) : gB S k 6 = false → gI S k 8 = gI M 15 r := zh.2.2.2.2.2.1
theorem RuR.cls {S : CS} {M : MS} {k r nt nb : Nat} (zh : RuR S M k r nt nb) : gI S k 9 = gI M 16 r := zh.2.2.2.2.2.2.1
theorem RuR.perm {S : CS} {M : MS} {k r nt nb : Nat} (zh : RuR S M k r nt nb) : ∀ c, c < 4 → ∃ v, v < 256 ∧ gI S (k + 3) c = nI v ∧ gI M 20 (4 * r + c) = nI v ∧ (bt (gI S k 9) c = false → v = 0) := zh.2.2.2.2.2.2.2.1
theorem RuR.to {S : CS} {M : MS} {k r nt nb : Nat} (zh : RuR S M k r nt nb) : gI M 11 r = nI 4 → ∃ t, t < nt ∧ gI S k 11 = nI t ∧ gI M 17 r = nI t := zh.2.2.2.2.2.2.2.2
def tgs (S : CS) (k : Nat) (s : Nat) : Int32 := if bt (gI S k 7) s = false then 0 else if gB S k 6 = true then nI (2 ^ s) else gI S k 8
abbrev PoR (S : CS) (M : MS) (d β nt nc nb nr : Nat) : Prop := (nt ≤ 12 ∧ nc ≤ 4 ∧ nb ≤ 3 ∧ nr ≤ 24) ∧ (gI S (d + 1) 1 = nI nt ∧ gI M 2 (5 * β) = nI nt) ∧ (∀ j, j < nt → NR (gL S (d + 2) j) (gL M 3 (12 * β + j))) ∧ (gI S (d + 5) 1 = nI nc ∧ gI M 2 (5 * β + 2) = nI nc) ∧ (∀ j, j < nc → NR (gL S (d + 6) j) (gL M 5 (4 * β + j))) ∧ (gI S (d + 7) 1 = nI nb ∧ gI M 2 (5 * β + 3) = nI nb) ∧ (∀ j, j < nb → gB S (d + 11) j = gB M 10 (3 * β + j)) ∧ (gI S d 8 = nI nr ∧ gI M 2 (5 * β + 4) = nI nr) ∧ (∀ j, j < nr → RuR S M (d + 21 + 4 * j) (24 * β + j) nt nb) ∧ (∀ i j, i < nr → j < nr → gI M 11 (24 * β + i) = nI 4 → gI M 11 (24 * β + j) = nI 4 → (∃ c s t, c < 4 ∧ s < 12 ∧ t < 12 ∧ bt (gI S (d + 21 + 4 * i) 9) c = true ∧ bt (gI S (d + 21 + 4 * j) 9) c = true ∧ bt (tgs S (d + 21 + 4 * i) s) t = true ∧ bt (tgs S (d + 21 + 4 * j) s) t = true) → gI M 17 (24 * β + i) = gI M 17 (24 * β + j))
theorem PoR.lim {S : CS} {M : MS} {d β nt nc nb nr : Nat} (zh : PoR S M d β nt nc nb nr) : nt ≤ 12 ∧ nc ≤ 4 ∧ nb ≤ 3 ∧ nr ≤ 24 := zh.1
theorem PoR.t {S : CS} {M : MS} {d β nt nc nb nr : Nat} (zh : PoR S M d β nt nc nb nr) : gI S (d + 1) 1 = nI nt ∧ gI M 2 (5 * β) = nI nt := zh.2.1
theorem PoR.tn {S : CS} {M : MS} {d β nt nc nb nr : Nat} (zh : PoR S M d β nt nc nb nr) : ∀ j, j < nt → NR (gL S (d + 2) j) (gL M 3 (12 * β + j)) := zh.2.2.1
theorem PoR.c {S : CS} {M : MS} {d β nt nc nb nr : Nat} (zh : PoR S M d β nt nc nb nr) : gI S (d + 5) 1 = nI nc ∧ gI M 2 (5 * β + 2) = nI nc := zh.2.2.2.1
theorem PoR.cn {S : CS} {M : MS} {d β nt nc nb nr : Nat} (zh : PoR S M d β nt nc nb nr) : ∀ j, j < nc → NR (gL S (d + 6) j) (gL M 5 (4 * β + j)) := zh.2.2.2.2.1
theorem PoR.b {S : CS} {M : MS} {d β nt nc nb nr : Nat} (zh : PoR S M d β nt nc nb nr) : gI S (d + 7) 1 = nI nb ∧ gI M 2 (5 * β + 3) = nI nb := zh.2.2.2.2.2.1
theorem PoR.bv {S : CS} {M : MS} {d β nt nc nb nr : Nat} (zh : PoR S M d β nt nc nb nr) : ∀ j, j < nb → gB S (d + 11) j = gB M 10 (3 * β + j) := zh.2.2.2.2.2.2.1
theorem PoR.r {S : CS} {M : MS} {d β nt nc nb nr : Nat} (zh : PoR S M d β nt nc nb nr) : gI S d 8 = nI nr ∧ gI M 2 (5 * β + 4) = nI nr := zh.2.2.2.2.2.2.2.1
theorem PoR.ru {S : CS} {M : MS} {d β nt nc nb nr : Nat} (zh : PoR S M d β nt nc nb nr) : ∀ j, j < nr → RuR S M (d + 21 + 4 * j) (24 * β + j) nt nb := zh.2.2.2.2.2.2.2.2.1
theorem PoR.nd {S : CS} {M : MS} {d β nt nc nb nr : Nat} (zh : PoR S M d β nt nc nb nr) : ∀ i j, i < nr → j < nr → gI M 11 (24 * β + i) = nI 4 → gI M 11 (24 * β + j) = nI 4 → (∃ c s t, c < 4 ∧ s < 12 ∧ t < 12 ∧ bt (gI S (d + 21 + 4 * i) 9) c = true ∧ bt (gI S (d + 21 + 4 * j) 9) c = true ∧ bt (tgs S (d + 21 + 4 * i) s) t = true ∧ bt (tgs S (d + 21 + 4 * j) s) t = true) → gI M 17 (24 * β + i) = gI M 17 (24 * β + j) := zh.2.2.2.2.2.2.2.2.2
/-- the words of the fields that name the two sides' policies -/
def BkR (S : CS) (M : MS) (β : Nat) : Prop := β ≤ 1 ∧ gI M 0 12 = nI β ∧ gR S 0 3 = pcl β ∧ gR S 2 1 = pcl (1 - β)
def FtR (S : CS) (M : MS) : Prop := gI S 2 2 = gI M 0 9 ∧ gI S 2 3 = gI M 0 10
def SqR (S : CS) (M : MS) (m : Nat) : Prop := ∃ q, q ≤ m ∧ gI S 0 4 = nI q ∧ gI M 0 34 = nI q
def LaR (S : CS) (M : MS) : Prop := (∀ j, j < 6 → NR0 (gL S 241 j) (gL M 23 j)) ∧ (∀ j, j < 10 → NR0 (gL S 242 j) (gL M 24 j)) ∧ ∀ j, j < 10 → NR0 (gL S 243 j) (gL M 25 j)
/-- an entry of the cache: one key, one stamp, one age, the same vectors -/
abbrev EnR (S : CS) (M : MS) (i m : Nat) : Prop := (∃ s t c, s < 12 ∧ t < 12 ∧ c < 4 ∧ gI S (246 + i) 0 = nI s ∧ gI S (246 + i) 1 = nI t ∧ gI S (246 + i) 2 = nI c ∧ gI M 26 i = nI (64 * s + 4 * t + c)) ∧ (∃ q, q ≤ m ∧ gI S (246 + i) 3 = nI q ∧ gI M 27 i = nI q) ∧ (gI S (246 + i) 4 = gI M 29 i) ∧ (∀ j, j < 3 → ∃ v, v < 256 ∧ gI S (246 + i) (5 + j) = nI v ∧ gI M 28 (3 * i + j) = nI v)
theorem EnR.key {S : CS} {M : MS} {i m : Nat} (zh : EnR S M i m) : ∃ s t c, s < 12 ∧ t < 12 ∧ c < 4 ∧ gI S (246 + i) 0 = nI s ∧ gI S (246 + i) 1 = nI t ∧ gI S (246 + i) 2 = nI c ∧ gI M 26 i = nI (64 * s + 4 * t + c) := zh.1
theorem EnR.st {S : CS} {M : MS} {i m : Nat} (zh : EnR S M i m) : ∃ q, q ≤ m ∧ gI S (246 + i) 3 = nI q ∧ gI M 27 i = nI q := zh.2.1
theorem EnR.age {S : CS} {M : MS} {i m : Nat} (zh : EnR S M i m) : gI S (246 + i) 4 = gI M 29 i := zh.2.2.1
theorem EnR.v {S : CS} {M : MS} {i m : Nat} (zh : EnR S M i m) : ∀ j, j < 3 → ∃ v, v < 256 ∧ gI S (246 + i) (5 + j) = nI v ∧ gI M 28 (3 * i + j) = nI v := zh.2.2.2
abbrev CaR (S : CS) (M : MS) (m : Nat) : Prop := (∃ n, n ≤ 6 ∧ gI S 244 1 = nI n ∧ gI M 0 42 = nI n ∧ (∀ i, i < n → EnR S M i m) ∧ ∀ i j, i < n → j < n → gI M 26 i = gI M 26 j → i = j) ∧ (∃ a, a ≤ m ∧ gI S 244 2 = nI a ∧ gI M 0 43 = nI a) ∧ (gI S 244 3 = gI M 0 44) ∧ (gI S 244 4 = gI M 0 45)
theorem CaR.n {S : CS} {M : MS} {m : Nat} (zh : CaR S M m) : ∃ n, n ≤ 6 ∧ gI S 244 1 = nI n ∧ gI M 0 42 = nI n ∧ (∀ i, i < n → EnR S M i m) ∧ ∀ i j, i < n → j < n → gI M 26 i = gI M 26 j → i = j := zh.1
theorem CaR.a {S : CS} {M : MS} {m : Nat} (zh : CaR S M m) : ∃ a, a ≤ m ∧ gI S 244 2 = nI a ∧ gI M 0 43 = nI a := zh.2.1
theorem CaR.h {S : CS} {M : MS} {m : Nat} (zh : CaR S M m) : gI S 244 3 = gI M 0 44 := zh.2.2.1
theorem CaR.ms {S : CS} {M : MS} {m : Nat} (zh : CaR S M m) : gI S 244 4 = gI M 0 45 := zh.2.2.2
def LoR (S : CS) (M : MS) (m : Nat) : Prop := ∃ n, n ≤ m ∧ gI S 252 1 = nI n ∧ gI M 0 46 = nI n ∧ ∀ i j, i < 8 → j < 5 → gI S (254 + i) j = gI M 30 (5 * i + j)
/-- class and reference agree, after at most m calls -/
abbrev Rl (S : CS) (M : MS) (m : Nat) : Prop := (m ≤ 1024) ∧ (TxR S M) ∧ (FtR S M) ∧ (SqR S M m) ∧ (LaR S M) ∧ (CaR S M m) ∧ (LoR S M m) ∧ (∃ β nt nc nb nr, BkR S M β ∧ PoR S M (pcl β) β nt nc nb nr)
theorem Rl.m {S : CS} {M : MS} {m : Nat} (zh : Rl S M m) : m ≤ 1024 := zh.1
theorem Rl.tx {S : CS} {M : MS} {m : Nat} (zh : Rl S M m) : TxR S M := zh.2.1
theorem Rl.ft {S : CS} {M : MS} {m : Nat} (zh : Rl S M m) : FtR S M := zh.2.2.1
theorem Rl.sq {S : CS} {M : MS} {m : Nat} (zh : Rl S M m) : SqR S M m := zh.2.2.2.1
theorem Rl.la {S : CS} {M : MS} {m : Nat} (zh : Rl S M m) : LaR S M := zh.2.2.2.2.1
theorem Rl.ca {S : CS} {M : MS} {m : Nat} (zh : Rl S M m) : CaR S M m := zh.2.2.2.2.2.1
theorem Rl.lo {S : CS} {M : MS} {m : Nat} (zh : Rl S M m) : LoR S M m := zh.2.2.2.2.2.2.1
theorem Rl.po {S : CS} {M : MS} {m : Nat} (zh : Rl S M m) : ∃ β nt nc nb nr, BkR S M β ∧ PoR S M (pcl β) β nt nc nb nr := zh.2.2.2.2.2.2.2

/-! each part of the relation looks at its own cells alone -/
def xTx (k j : Nat) : Prop := k = 1 ∨ (k = 0 ∧ j = 1)
def yTx (k j : Nat) : Prop := k = 1 ∨ (k = 0 ∧ j = 2)
def xFt (k j : Nat) : Prop := k = 2 ∧ (j = 2 ∨ j = 3)
def yFt (k j : Nat) : Prop := k = 0 ∧ (j = 9 ∨ j = 10)
def xSq (k j : Nat) : Prop := k = 0 ∧ j = 4
def ySq (k j : Nat) : Prop := k = 0 ∧ j = 34
def xLa (k _j : Nat) : Prop := 241 ≤ k ∧ k ≤ 243
def yLa (k _j : Nat) : Prop := 23 ≤ k ∧ k ≤ 25
def xCa (k _j : Nat) : Prop := 244 ≤ k ∧ k ≤ 251
def yCa (k j : Nat) : Prop := (26 ≤ k ∧ k ≤ 29) ∨ (k = 0 ∧ 42 ≤ j ∧ j ≤ 45)
def xLo (k _j : Nat) : Prop := 252 ≤ k ∧ k ≤ 261
def yLo (k j : Nat) : Prop := k = 30 ∨ (k = 0 ∧ j = 46)
def xBk (k j : Nat) : Prop := (k = 0 ∧ j = 3) ∨ (k = 2 ∧ j = 1)
def yBk (k j : Nat) : Prop := k = 0 ∧ j = 12
def xPo (d k _j : Nat) : Prop := d ≤ k ∧ k < d + 117
def mW (k : Nat) : Nat := if k = 2 then 5 else if k = 3 then 12 else if k = 4 then 4 else if k = 5 then 4 else if k = 6 then 32 else if k = 7 then 3 else if k = 8 then 12 else if k = 9 then 4 else if k = 10 then 3 else if k = 20 then 96 else if k = 21 then 48 else if k = 22 then 48 else 24
def yPo (β k j : Nat) : Prop := 2 ≤ k ∧ k ≤ 22 ∧ mW k * β ≤ j ∧ j < mW k * β + mW k
section FR
variable {S S' : CS} {M M' : MS}
theorem TxR.fr (h : TxR S M) (hc : eqC xTx S S') (hm : eqC yTx M M') : TxR S' M' := by
  obtain ⟨n, h1, h2, h3, h4⟩ := h
  exact ⟨n, h1, (hc 0 1 (Or.inr ⟨rfl, rfl⟩)).1.trans h2, (hm 0 2 (Or.inr ⟨rfl, rfl⟩)).1.trans h3, fun j hj => by rw [(hc 1 j (Or.inl rfl)).1, (hm 1 j (Or.inl rfl)).1]; exact h4 j hj⟩
theorem FtR.fr (h : FtR S M) (hc : eqC xFt S S') (hm : eqC yFt M M') : FtR S' M' :=
  ⟨(hc 2 2 ⟨rfl, Or.inl rfl⟩).1.trans (h.1.trans (hm 0 9 ⟨rfl, Or.inl rfl⟩).1.symm), (hc 2 3 ⟨rfl, Or.inr rfl⟩).1.trans (h.2.trans (hm 0 10 ⟨rfl, Or.inr rfl⟩).1.symm)⟩
theorem SqR.fr {m m' : Nat} (h : SqR S M m) (hm' : m ≤ m') (hc : eqC xSq S S') (hm : eqC ySq M M') : SqR S' M' m' := by
  obtain ⟨q, h1, h2, h3⟩ := h
  exact ⟨q, by omega, (hc 0 4 ⟨rfl, rfl⟩).1.trans h2, (hm 0 34 ⟨rfl, rfl⟩).1.trans h3⟩
theorem LaR.fr (h : LaR S M) (hc : eqC xLa S S') (hm : eqC yLa M M') : LaR S' M' := by
  obtain ⟨h1, h2, h3⟩ := h
  refine ⟨fun j hj => ?_, fun j hj => ?_, fun j hj => ?_⟩
  · rw [(hc 241 j ⟨by omega, by omega⟩).2.1, (hm 23 j ⟨by omega, by omega⟩).2.1]; exact h1 j hj
  · rw [(hc 242 j ⟨by omega, by omega⟩).2.1, (hm 24 j ⟨by omega, by omega⟩).2.1]; exact h2 j hj
  · rw [(hc 243 j ⟨by omega, by omega⟩).2.1, (hm 25 j ⟨by omega, by omega⟩).2.1]; exact h3 j hj
theorem EnR.fr {i m m' : Nat} (h : EnR S M i m) (hm' : m ≤ m') (hc : ∀ j, gI S' (246 + i) j = gI S (246 + i) j) (h26 : gI M' 26 i = gI M 26 i) (h27 : gI M' 27 i = gI M 27 i) (h29 : gI M' 29 i = gI M 29 i) (h28 : ∀ j, j < 3 → gI M' 28 (3 * i + j) = gI M 28 (3 * i + j)) : EnR S' M' i m' := by
  obtain ⟨h1, ⟨q, q0, q1, q2⟩, h3, h4⟩ := h
  refine ⟨?_, ⟨q, by omega, (hc 3).trans q1, h27.trans q2⟩, ?_, fun j hj => ?_⟩
  · simp only [hc, h26]; exact h1
  · rw [hc, h29]; exact h3
  · rw [hc, h28 j hj]; exact h4 j hj
theorem CaR.fr {m m' : Nat} (h : CaR S M m) (hm' : m ≤ m') (hc : eqC xCa S S') (hm : eqC yCa M M') : CaR S' M' m' := by
  obtain ⟨⟨n, hn, a1, a2, a3, a4⟩, ⟨a, b0, b1, b2⟩, b3, b4⟩ := h
  have y0 : ∀ j, 42 ≤ j → j ≤ 45 → gI M' 0 j = gI M 0 j := fun j g1 g2 => (hm 0 j (Or.inr ⟨rfl, g1, g2⟩)).1
  have x0 : ∀ k j, 244 ≤ k → k ≤ 251 → gI S' k j = gI S k j := fun k j g1 g2 => (hc k j ⟨g1, g2⟩).1
  have y1 : ∀ k j, 26 ≤ k → k ≤ 29 → gI M' k j = gI M k j := fun k j g1 g2 => (hm k j (Or.inl ⟨g1, g2⟩)).1
  refine ⟨⟨n, hn, (x0 244 1 (by omega) (by omega)).trans a1, (y0 42 (by omega) (by omega)).trans a2, fun i hi => ?_, fun i j hi hj => ?_⟩, ⟨a, by omega, (x0 244 2 (by omega) (by omega)).trans b1, (y0 43 (by omega) (by omega)).trans b2⟩, ?_, ?_⟩
  · exact (a3 i hi).fr hm' (fun j => x0 _ _ (by omega) (by omega)) (y1 26 _ (by omega) (by omega)) (y1 27 _ (by omega) (by omega)) (y1 29 _ (by omega) (by omega)) (fun j _ => y1 28 _ (by omega) (by omega))
  · rw [y1 26 _ (by omega) (by omega), y1 26 _ (by omega) (by omega)]; exact a4 i j hi hj
  · rw [x0 _ _ (by omega) (by omega), y0 _ (by omega) (by omega)]; exact b3
  · rw [x0 _ _ (by omega) (by omega), y0 _ (by omega) (by omega)]; exact b4
theorem LoR.fr {m m' : Nat} (h : LoR S M m) (hm' : m ≤ m') (hc : eqC xLo S S') (hm : eqC yLo M M') : LoR S' M' m' := by
  obtain ⟨n, h1, h2, h3, h4⟩ := h
  exact ⟨n, by omega, (hc 252 1 ⟨by omega, by omega⟩).1.trans h2, (hm 0 46 (Or.inr ⟨rfl, rfl⟩)).1.trans h3, fun i j hi hj => by rw [(hc (254 + i) j ⟨by omega, by omega⟩).1, (hm 30 _ (Or.inl rfl)).1]; exact h4 i j hi hj⟩
theorem BkR.fr {β : Nat} (h : BkR S M β) (hc : eqC xBk S S') (hm : eqC yBk M M') : BkR S' M' β := by
  obtain ⟨h0, h1, h2, h3⟩ := h
  exact ⟨h0, (hm 0 12 ⟨rfl, rfl⟩).1.trans h1, (hc 0 3 (Or.inl ⟨rfl, rfl⟩)).2.2.1.trans h2, (hc 2 1 (Or.inr ⟨rfl, rfl⟩)).2.2.1.trans h3⟩
theorem RuR.fr {k r nt nb : Nat} (h : RuR S M k r nt nb) (hc : ∀ a j, a = k ∨ a = k + 3 → gI S' a j = gI S a j ∧ gL S' a j = gL S a j ∧ gR S' a j = gR S a j ∧ gB S' a j = gB S a j) (hm : ∀ a, 11 ≤ a → a ≤ 19 → gI M' a r = gI M a r ∧ gB M' a r = gB M a r) (hm2 : ∀ c, c < 4 → gI M' 20 (4 * r + c) = gI M 20 (4 * r + c)) : RuR S' M' k r nt nb := by
  obtain ⟨h1, h2, h3, h4, h5, h6, h7, h8, h9⟩ := h
  have cI : ∀ j, gI S' k j = gI S k j := fun j => (hc k j (Or.inl rfl)).1
  have cR : ∀ j, gR S' k j = gR S k j := fun j => (hc k j (Or.inl rfl)).2.2.1
  have cB : ∀ j, gB S' k j = gB S k j := fun j => (hc k j (Or.inl rfl)).2.2.2
  have c3 : ∀ j, gI S' (k + 3) j = gI S (k + 3) j := fun j => (hc (k + 3) j (Or.inr rfl)).1
  have mI : ∀ a, 11 ≤ a → a ≤ 19 → gI M' a r = gI M a r := fun a g1 g2 => (hm a g1 g2).1
  have mB : ∀ a, 11 ≤ a → a ≤ 19 → gB M' a r = gB M a r := fun a g1 g2 => (hm a g1 g2).2
  have m11 := mI 11 (by omega) (by omega)
  have m12 := mI 12 (by omega) (by omega)
  have m13 := mI 13 (by omega) (by omega)
  have m14 := mI 14 (by omega) (by omega)
  have m15 := mI 15 (by omega) (by omega)
  have m16 := mI 16 (by omega) (by omega)
  have m17 := mI 17 (by omega) (by omega)
  have m18 := mB 18 (by omega) (by omega)
  have m19 := mB 19 (by omega) (by omega)
  refine ⟨?_, ?_, ?_, ?_, ?_, ?_, ?_, ?_, ?_⟩
  · rw [cR, m11]; exact h1
  · rw [cI, m12]; exact h2
  · rw [cI, m13, cB, m18]; exact h3
  · rw [cB, m19]; exact h4
  · rw [cI, m14]; exact h5
  · rw [cB, cI, m15]; exact h6
  · rw [cI, m16]; exact h7
  · intro c hcc
    rw [c3, hm2 c hcc, cI]; exact h8 c hcc
  · rw [m11, cI, m17]; exact h9
theorem tgs_fr {k s : Nat} (hc : ∀ j, gI S' k j = gI S k j ∧ gB S' k j = gB S k j) : tgs S' k s = tgs S k s := by
  unfold tgs
  rw [(hc 7).1, (hc 8).1, (hc 6).2]
theorem PoR.fr {d β nt nc nb nr : Nat} (h : PoR S M d β nt nc nb nr) (hc : eqC (xPo d) S S') (hm : eqC (yPo β) M M') : PoR S' M' d β nt nc nb nr := by
  obtain ⟨hl, ⟨t1, t2⟩, tn, ⟨c1, c2⟩, cn, ⟨b1, b2⟩, bv, ⟨r1, r2⟩, ru, nd⟩ := h
  have X : ∀ k j, d ≤ k → k < d + 117 → gI S' k j = gI S k j ∧ gL S' k j = gL S k j ∧ gR S' k j = gR S k j ∧ gB S' k j = gB S k j := fun k j g1 g2 => hc k j ⟨g1, g2⟩
  have Y : ∀ k j w, 2 ≤ k → k ≤ 22 → mW k = w → w * β ≤ j → j < w * β + w → gI M' k j = gI M k j ∧ gL M' k j = gL M k j ∧ gR M' k j = gR M k j ∧ gB M' k j = gB M k j := fun k j w g1 g2 g3 g4 g5 => hm k j ⟨g1, g2, by rw [g3]; exact g4, by rw [g3]; exact g5⟩
  have R11 : ∀ a j, j < nr → 11 ≤ a → a ≤ 19 → gI M' a (24 * β + j) = gI M a (24 * β + j) ∧ gB M' a (24 * β + j) = gB M a (24 * β + j) := fun a j g1 g2 g3 => by
    have hw : mW a = 24 := by
      unfold mW
      rw [if_neg (by omega), if_neg (by omega), if_neg (by omega), if_neg (by omega), if_neg (by omega), if_neg (by omega), if_neg (by omega), if_neg (by omega), if_neg (by omega), if_neg (by omega), if_neg (by omega), if_neg (by omega)]
    have := Y a (24 * β + j) 24 (by omega) (by omega) hw (by omega) (by omega)
    exact ⟨this.1, this.2.2.2⟩
  refine ⟨hl, ⟨(X (d + 1) 1 (by omega) (by omega)).1.trans t1, (Y 2 (5 * β) 5 (by omega) (by omega) rfl (by omega) (by omega)).1.trans t2⟩, fun j hj => ?_, ⟨(X (d + 5) 1 (by omega) (by omega)).1.trans c1, (Y 2 (5 * β + 2) 5 (by omega) (by omega) rfl (by omega) (by omega)).1.trans c2⟩, fun j hj => ?_, ⟨(X (d + 7) 1 (by omega) (by omega)).1.trans b1, (Y 2 (5 * β + 3) 5 (by omega) (by omega) rfl (by omega) (by omega)).1.trans b2⟩, fun j hj => ?_, ⟨(X d 8 (by omega) (by omega)).1.trans r1, (Y 2 (5 * β + 4) 5 (by omega) (by omega) rfl (by omega) (by omega)).1.trans r2⟩, fun j hj => ?_, ?_⟩
  · rw [(X (d + 2) j (by omega) (by omega)).2.1, (Y 3 (12 * β + j) 12 (by omega) (by omega) rfl (by omega) (by omega)).2.1]; exact tn j hj
  · rw [(X (d + 6) j (by omega) (by omega)).2.1, (Y 5 (4 * β + j) 4 (by omega) (by omega) rfl (by omega) (by omega)).2.1]; exact cn j hj
  · rw [(X (d + 11) j (by omega) (by omega)).2.2.2, (Y 10 (3 * β + j) 3 (by omega) (by omega) rfl (by omega) (by omega)).2.2.2]; exact bv j hj
  · refine (ru j hj).fr (fun a i ha => ?_) (fun a g1 g2 => R11 a j hj g1 g2) (fun c hcc => (Y 20 (4 * (24 * β + j) + c) 96 (by omega) (by omega) rfl (by omega) (by omega)).1)
    rcases ha with rfl | rfl
    · exact X _ i (by omega) (by omega)
    · exact X _ i (by omega) (by omega)
  · intro i j hi hj
    have ti : ∀ s, tgs S' (d + 21 + 4 * i) s = tgs S (d + 21 + 4 * i) s := fun s => tgs_fr (fun q => ⟨(X (d + 21 + 4 * i) q (by omega) (by omega)).1, (X (d + 21 + 4 * i) q (by omega) (by omega)).2.2.2⟩)
    have tj : ∀ s, tgs S' (d + 21 + 4 * j) s = tgs S (d + 21 + 4 * j) s := fun s => tgs_fr (fun q => ⟨(X (d + 21 + 4 * j) q (by omega) (by omega)).1, (X (d + 21 + 4 * j) q (by omega) (by omega)).2.2.2⟩)
    rw [(R11 11 i hi (by omega) (by omega)).1, (R11 11 j hj (by omega) (by omega)).1, (R11 17 i hi (by omega) (by omega)).1, (R11 17 j hj (by omega) (by omega)).1, (X (d + 21 + 4 * i) 9 (by omega) (by omega)).1, (X (d + 21 + 4 * j) 9 (by omega) (by omega)).1]
    simp only [ti, tj]
    exact nd i j hi hj
end FR

/-! the calls that change little -/
def nth (k j : Nat) : Prop := ¬ (k = 0 ∧ j = 0)
theorem Rl.ro {S : CS} {M M' : MS} {m m' : Nat} (h : Rl S M m) (h1 : m ≤ m') (h2 : m' ≤ 1024) (hc : eqC nth M M') : Rl S M' m' := by
  obtain ⟨β, nt, nc, nb, nr, hB, hP⟩ := h.po
  refine ⟨h2, h.tx.fr (eqC.rf _ _) (hc.mono ?_), h.ft.fr (eqC.rf _ _) (hc.mono ?_), h.sq.fr h1 (eqC.rf _ _) (hc.mono ?_), h.la.fr (eqC.rf _ _) (hc.mono ?_), h.ca.fr h1 (eqC.rf _ _) (hc.mono ?_), h.lo.fr h1 (eqC.rf _ _) (hc.mono ?_), β, nt, nc, nb, nr, hB.fr (eqC.rf _ _) (hc.mono ?_), hP.fr (eqC.rf _ _) (hc.mono ?_)⟩
  all_goals
    intro k j hk
    simp only [yTx, yFt, ySq, yLa, yCa, yLo, yBk, yPo, nth] at *
    omega
theorem Rl.th {S : CS} {M : MS} {m m' : Nat} (h : Rl S M m) (h1 : m ≤ m') (h2 : m' ≤ 1024) (v : Int32) : Rl S (pI M 0 0 v) m' := h.ro h1 h2 ((eqC.rf _ _).I v (by simp [nth]))
theorem bk5 {β c : Nat} (h : β ≤ 1) (hc : c < 5) : inbd (5 * nI β + nI c) 10 = true ∧ txN (5 * nI β + nI c) = 5 * β + c := by
  have e : (5 : Int32) * nI β + nI c = nI (5 * β + c) := by rw [show (5 : Int32) = nI 5 from rfl, nI_mul, nI_add]
  rw [e]
  exact ⟨inb_nI (by omega) (by omega), tx_nI (by omega)⟩
theorem bk50 {β : Nat} (h : β ≤ 1) : inbd (5 * nI β) 10 = true ∧ txN (5 * nI β) = 5 * β := by
  have e : (5 : Int32) * nI β = nI (5 * β) := by rw [← nI_mul]; rfl
  rw [e]
  exact ⟨inb_nI (by omega) (by omega), tx_nI (by omega)⟩
theorem bk3 {β c : Nat} (h : β ≤ 1) (hc : c < 3) : inbd (3 * nI β + nI c) 6 = true ∧ txN (3 * nI β + nI c) = 3 * β + c := by
  have e : (3 : Int32) * nI β + nI c = nI (3 * β + c) := by rw [show (3 : Int32) = nI 3 from rfl, nI_mul, nI_add]
  rw [e]
  exact ⟨inb_nI (by omega) (by omega), tx_nI (by omega)⟩
theorem bk12 {β c : Nat} (h : β ≤ 1) (hc : c < 12) : inbd (12 * nI β + nI c) 24 = true ∧ txN (12 * nI β + nI c) = 12 * β + c := by
  have e : (12 : Int32) * nI β + nI c = nI (12 * β + c) := by rw [show (12 : Int32) = nI 12 from rfl, nI_mul, nI_add]
  rw [e]
  exact ⟨inb_nI (by omega) (by omega), tx_nI (by omega)⟩
theorem bk4 {β c : Nat} (h : β ≤ 1) (hc : c < 4) : inbd (4 * nI β + nI c) 8 = true ∧ txN (4 * nI β + nI c) = 4 * β + c := by
  have e : (4 : Int32) * nI β + nI c = nI (4 * β + c) := by rw [show (4 : Int32) = nI 4 from rfl, nI_mul, nI_add]
  rw [e]
  exact ⟨inb_nI (by omega) (by omega), tx_nI (by omega)⟩
abbrev Nx (m : Nat) (x : Option ST) : Prop := wpo x (fun Z2 => Rl Z2.1 Z2.2.1 (m + 2))
section OPS
variable {S : CS} {M : MS} {o : Nat → Int64} {m : Nat}
theorem Rl.tc (h : Rl S M m) (hm : m + 2 ≤ 1024) {S' : CS} {M' : MS} (g1 : TxR S' M') (g2 : eqC tyC S S') (g3 : eqC tyM M M') : Rl S' M' (m + 2) := by
  obtain ⟨β, nt, nc, nb, nr, hB, hP⟩ := h.po
  refine ⟨by omega, g1, h.ft.fr (g2.mono ?_) (g3.mono ?_), h.sq.fr (by omega) (g2.mono ?_) (g3.mono ?_), h.la.fr (g2.mono ?_) (g3.mono ?_), h.ca.fr (by omega) (g2.mono ?_) (g3.mono ?_), h.lo.fr (by omega) (g2.mono ?_) (g3.mono ?_), β, nt, nc, nb, nr, hB.fr (g2.mono ?_) (g3.mono ?_), hP.fr (g2.mono ?_) (g3.mono ?_)⟩
  all_goals
    intro k j hk
    simp only [xFt, yFt, xSq, ySq, xLa, yLa, xCa, yCa, xLo, yLo, xBk, yBk, xPo, yPo, tyC, tyM, pcl] at *
    (try split at hk) <;> omega
theorem S_0 (h : Rl S M m) (hm : m + 2 ≤ 1024) (a1 a2 a3 a4 : Int32) : Nx m (st_0 a1 a2 a3 a4 (S, M, o)) := by
  unfold st_0
  obtain ⟨S', M', r, e1, e2, g1, g2, g3⟩ := ty_sim h.tx ((lSh a1.toInt64 32) ||| (a2.toInt64 &&& 4294967295)) a3
  show Nx m ((cG_type _ a3 S).bind fun q141 => ((m_type _ a3 M).bind fun q173 => (if bI q141.2 = bI q173.2 then some (q141.1, q173.1, o) else none)))
  rw [e1, Option.bind_some, e2, Option.bind_some, if_pos rfl]
  exact wpo_some.mpr (h.tc hm g1 g2 g3)
theorem S_2 (h : Rl S M m) (hm : m + 2 ≤ 1024) (a1 a2 a3 a4 : Int32) : Nx m (st_2 a1 a2 a3 a4 (S, M, o)) := by
  have hr : ∀ v, Rl S (pI M 0 0 v) (m + 2) := h.th (by omega) (by omega)
  unfold st_2 cG_fault m_fault m_fault_J26 m_give
  by_cases h0 : a1 = 0
  · simp only [h0, if_true, Option.bind_some, bd]
    rw [if_pos h.ft.1]
    exact wpo_some.mpr (hr 0)
  · by_cases h1 : a1 = 1
    · simp only [h0, h1, if_true, if_false, Option.bind_some, bd, show ¬ (1 : Int32) = 0 by decide]
      rw [if_pos h.ft.2]
      exact wpo_some.mpr (hr 0)
    · simp only [h0, h1, if_true, if_false, Option.bind_some, bd]
      exact wpo_some.mpr (hr 0)
theorem S_3 (h : Rl S M m) (hm : m + 2 ≤ 1024) (a1 a2 a3 a4 : Int32) : Nx m (st_3 a1 a2 a3 a4 (S, M, o)) := by
  have hr : ∀ v, Rl S (pI M 0 0 v) (m + 2) := h.th (by omega) (by omega)
  obtain ⟨β, nt, nc, nb, nr, hB, hP⟩ := h.po
  obtain ⟨q, -, q1, q2⟩ := h.sq
  obtain ⟨n, -, n1, n2, -⟩ := h.tx
  have e12 : gI (pI M 0 0 0) 0 12 = nI β := (gI_other _ _ (by omega)).trans hB.2.1
  have e2 : ∀ j, gI (pI M 0 0 0) 2 j = gI M 2 j := fun j => gI_other _ _ (by omega)
  have e34 : gI (pI M 0 0 0) 0 34 = gI M 0 34 := gI_other _ _ (by omega)
  have e02 : gI (pI M 0 0 0) 0 2 = gI M 0 2 := gI_other _ _ (by omega)
  unfold st_3 cG_count m_count
  simp only [bd, hB.2.2.1, pcl_7, if_true, e12]
  by_cases h0 : a1 = 0
  · subst h0
    rw [if_pos rfl, if_neg (by decide), if_pos (by decide), if_pos rfl, if_pos (bk50 hB.1).1, (bk50 hB.1).2, e2, Option.bind_some, Option.bind_some, if_pos (hP.t.1.trans hP.t.2.symm)]
    exact wpo_some.mpr (hr 0)
  by_cases h1 : a1 = 1
  · subst h1
    have b := bk5 (c := 2) hB.1 (by omega)
    have e : (5 : Int32) * nI β + 1 + 1 = 5 * nI β + nI 2 := by rw [Int32.add_assoc]; rfl
    rw [if_neg h0, if_pos rfl, if_neg (by decide), if_pos (by decide), if_neg h0, if_neg (by decide), e, if_pos b.1, b.2, e2, Option.bind_some, Option.bind_some, if_pos (hP.c.1.trans hP.c.2.symm)]
    exact wpo_some.mpr (hr 0)
  by_cases h2 : a1 = 2
  · subst h2
    have b := bk5 (c := 3) hB.1 (by omega)
    have e : (5 : Int32) * nI β + 2 + 1 = 5 * nI β + nI 3 := by rw [Int32.add_assoc]; rfl
    rw [if_neg h0, if_neg h1, if_pos rfl, if_neg (by decide), if_pos (by decide), if_neg h0, if_neg (by decide), e, if_pos b.1, b.2, e2, Option.bind_some, Option.bind_some, if_pos (hP.b.1.trans hP.b.2.symm)]
    exact wpo_some.mpr (hr 0)
  by_cases h3 : a1 = 3
  · subst h3
    have b := bk5 (c := 4) hB.1 (by omega)
    have e : (5 : Int32) * nI β + 3 + 1 = 5 * nI β + nI 4 := by rw [Int32.add_assoc]; rfl
    rw [if_neg h0, if_neg h1, if_neg h2, if_pos rfl, if_neg (by decide), if_pos (by decide), if_neg h0, if_neg (by decide), e, if_pos b.1, b.2, e2, Option.bind_some, Option.bind_some, if_pos (hP.r.1.trans hP.r.2.symm)]
    exact wpo_some.mpr (hr 0)
  by_cases h4 : a1 = 4
  · subst h4
    rw [if_neg h0, if_neg h1, if_neg h2, if_neg h3, if_pos rfl, if_neg (by decide), if_pos (by decide), if_neg h0, if_pos (by decide), if_pos rfl, e34, Option.bind_some, Option.bind_some, if_pos (q1.trans q2.symm)]
    exact wpo_some.mpr (hr 0)
  by_cases h5 : a1 = 5
  · subst h5
    rw [if_neg h0, if_neg h1, if_neg h2, if_neg h3, if_neg h4, if_pos rfl, if_neg (by decide), if_pos (by decide), if_neg h0, if_pos (by decide), if_neg h4, e02, Option.bind_some, Option.bind_some, if_pos (n1.trans n2.symm)]
    exact wpo_some.mpr (hr 0)
  rw [if_neg h0, if_neg h1, if_neg h2, if_neg h3, if_neg h4, if_neg h5, Option.bind_some]
  by_cases h6 : a1 < 0
  · rw [if_pos h6, Option.bind_some, if_pos rfl]
    exact wpo_some.mpr (hr 0)
  · have h7 : ¬ a1 ≤ 5 := by
      intro h7
      obtain ⟨j, hj, rfl⟩ := nI_of2 (M := 5) (n := 5) (by decide) h6 h7
      have : j = 0 ∨ j = 1 ∨ j = 2 ∨ j = 3 ∨ j = 4 ∨ j = 5 := by omega
      rcases this with rfl | rfl | rfl | rfl | rfl | rfl
      · exact h0 rfl
      · exact h1 rfl
      · exact h2 rfl
      · exact h3 rfl
      · exact h4 rfl
      · exact h5 rfl
    rw [if_neg h6, if_neg h7, Option.bind_some, if_pos rfl]
    exact wpo_some.mpr (hr 0)
end OPS
