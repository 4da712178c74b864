/-! reading: the draft of the class and the reference's own bank -/
def lim (w : Nat) : Nat := if w = 0 then 12 else if w = 3 then 3 else 4
def mc (w : Nat) : Nat := if w = 3 then 7 else 3 + w
abbrev SetR (S : CS) (M : MS) (q s : Nat) : Prop := (gB S q 0 = bt (gI M 21 s) 16) ∧ (gB S q 1 = bt (gI M 21 s) 17) ∧ (∀ i, i < 32 → bt (gI S q 2) i = (decide (i < 12) && bt (gI M 21 s) i)) ∧ (∀ i, i < 32 → bt (gI S q 3) i = (decide (i < 4) && bt (gI M 21 s) (12 + i))) ∧ (∀ i, i < 32 → bt (gI S q 4) i = (decide (i < 12) && bt (gI M 22 s) i)) ∧ (∀ i, i < 32 → bt (gI S q 5) i = (decide (i < 4) && bt (gI M 22 s) (12 + i)))
theorem SetR.i1 {S : CS} {M : MS} {q s : Nat} (zh : SetR S M q s) : gB S q 0 = bt (gI M 21 s) 16 := zh.1
theorem SetR.i2 {S : CS} {M : MS} {q s : Nat} (zh : SetR S M q s) : gB S q 1 = bt (gI M 21 s) 17 := zh.2.1
theorem SetR.a1 {S : CS} {M : MS} {q s : Nat} (zh : SetR S M q s) : ∀ i, i < 32 → bt (gI S q 2) i = (decide (i < 12) && bt (gI M 21 s) i) := zh.2.2.1
theorem SetR.a2 {S : CS} {M : MS} {q s : Nat} (zh : SetR S M q s) : ∀ i, i < 32 → bt (gI S q 3) i = (decide (i < 4) && bt (gI M 21 s) (12 + i)) := zh.2.2.2.1
theorem SetR.r1 {S : CS} {M : MS} {q s : Nat} (zh : SetR S M q s) : ∀ i, i < 32 → bt (gI S q 4) i = (decide (i < 12) && bt (gI M 22 s) i) := zh.2.2.2.2.1
theorem SetR.r2 {S : CS} {M : MS} {q s : Nat} (zh : SetR S M q s) : ∀ i, i < 32 → bt (gI S q 5) i = (decide (i < 4) && bt (gI M 22 s) (12 + i)) := zh.2.2.2.2.2
abbrev RuD (S : CS) (M : MS) (k r nt nb : Nat) : Prop := (∃ w, w < 5 ∧ gR S k 0 = w + 5 ∧ gI M 11 r = nI w) ∧ (∃ p, p ≤ 480 ∧ gI S k 1 = nI p ∧ gI M 12 r = nI p) ∧ ((gI S k 2 = -1 ∧ gI M 13 r = -1) ∨ ∃ c, c < nb ∧ gI S k 2 = nI c ∧ gI M 13 r = nI c ∧ gB S k 3 = !gB M 18 r) ∧ (gB S k 6 = gB M 19 r) ∧ (SetR S M (k + 1) (2 * r)) ∧ (gB S k 6 = false → SetR S M (k + 2) (2 * r + 1)) ∧ (∃ v, v < 16 ∧ gI S k 9 = nI v ∧ gI M 16 r = nI v) ∧ (∀ c, c < 4 → ∃ v, v < 256 ∧ gI S (k + 3) c = nI v ∧ gI M 20 (4 * r + c) = nI v ∧ (bt (gI S k 9) c = false → v = 0)) ∧ (gI M 11 r = nI 4 → ∃ t, t < nt ∧ gI S k 11 = nI t ∧ gI M 17 r = nI t)
theorem RuD.kind {S : CS} {M : MS} {k r nt nb : Nat} (zh : RuD S M k r nt nb) : ∃ w, w < 5 ∧ gR S k 0 = w + 5 ∧ gI M 11 r = nI w := zh.1
theorem RuD.place {S : CS} {M : MS} {k r nt nb : Nat} (zh : RuD S M k r nt nb) : ∃ p, p ≤ 480 ∧ gI S k 1 = nI p ∧ gI M 12 r = nI p := zh.2.1
theorem RuD.cond {S : CS} {M : MS} {k r nt nb : Nat} (zh : RuD S M k r nt nb) : (gI S k 2 = -1 ∧ gI M 13 r = -1) ∨ ∃ c, c < nb ∧ gI S k 2 = nI c ∧ gI M 13 r = nI c ∧ gB S k 3 = !gB M 18 r := zh.2.2.1
theorem RuD.self {S : CS} {M : MS} {k r nt nb : Nat} (zh : RuD S M k r nt nb) : gB S k 6 = gB M 19 r := zh.2.2.2.1
theorem RuD.src {S : CS} {M : MS} {k r nt nb : Nat} (zh : RuD S M k r nt nb) : SetR S M (k + 1) (2 * r) := zh.2.2.2.2.1
theorem RuD.tgt {S : CS} {M : MS} {k r nt nb : Nat} (zh : RuD S M k r nt nb) : gB S k 6 = false → SetR S M (k + 2) (2 * r + 1) := zh.2.2.2.2.2.1
theorem RuD.cls {S : CS} {M : MS} {k r nt nb : Nat} (zh : RuD S M k r nt nb) : ∃ v, v < 16 ∧ gI S k 9 = nI v ∧ gI M 16 r = nI v := zh.2.2.2.2.2.2.1
theorem RuD.perm {S : CS} {M : MS} {k r nt nb : Nat} (zh : RuD S M k r nt nb) : ∀ c, c < 4 → ∃ v, v < 256 ∧ gI S (k + 3) c = nI v ∧ gI M 20 (4 * r + c) = nI v ∧ (bt (gI S k 9) c = false → v = 0) := zh.2.2.2.2.2.2.2.1
theorem RuD.to {S : CS} {M : MS} {k r nt nb : Nat} (zh : RuD S M k r nt nb) : gI M 11 r = nI 4 → ∃ t, t < nt ∧ gI S k 11 = nI t ∧ gI M 17 r = nI t := zh.2.2.2.2.2.2.2.2
abbrev Dr (d b : Nat) (P : Nat → Nat) (S : CS) (M : MS) : Prop := ((d = 7 ∨ d = 124) ∧ b ≤ 1) ∧ (gR S 2 1 = d) ∧ ((∀ w, w < 4 → P w ≤ lim w) ∧ P 4 ≤ P 9 ∧ P 9 ≤ 24 ∧ (∀ c, c < 4 → P (5 + c) ≤ 8) ∧ P 10 ≤ P 2 ∧ P 11 ≤ P 0 ∧ P 12 ≤ P 3) ∧ (∀ w, w < 4 → gI S (d + 1 + 2 * w) 1 = nI (P w) ∧ gI M 2 (5 * b + w) = nI (P w)) ∧ (gI S d 8 = nI (P 9) ∧ gI M 2 (5 * b + 4) = nI (P 9)) ∧ (∀ w, w < 4 → ∀ j, j < P w → NR (gL S (d + 1 + 2 * w + 1) j) (gL M (mc w) (lim w * b + j))) ∧ (∀ c, c < 4 → gI S (d + 13 + 2 * c) 1 = nI (P (5 + c)) ∧ (c < P 10 → gI M 9 (4 * b + c) = nI (P (5 + c)))) ∧ (∀ c, c < P 10 → ∀ j, j < P (5 + c) → NR (gL S (d + 13 + 2 * c + 1) j) (gL M 6 (8 * (4 * b + c) + j))) ∧ (∀ c, P 10 ≤ c → c < 4 → P (5 + c) = 0) ∧ (∀ a, a < 4 → ∀ t, t < 32 → bt (gI S (d + 10) a) t = (decide (t < P 11) && bt (gI M 8 (12 * b + t)) a)) ∧ (∀ j, j < P 12 → gB S (d + 11) j = gB M 10 (3 * b + j)) ∧ (∀ j, j < P 4 → RuD S M (d + 21 + 4 * j) (24 * b + j) (P 0) (P 3))
theorem Dr.hd {d b : Nat} {P : Nat → Nat} {S : CS} {M : MS} (zh : Dr d b P S M) : (d = 7 ∨ d = 124) ∧ b ≤ 1 := zh.1
theorem Dr.ptr {d b : Nat} {P : Nat → Nat} {S : CS} {M : MS} (zh : Dr d b P S M) : gR S 2 1 = d := zh.2.1
theorem Dr.lm {d b : Nat} {P : Nat → Nat} {S : CS} {M : MS} (zh : Dr d b P S M) : (∀ w, w < 4 → P w ≤ lim w) ∧ P 4 ≤ P 9 ∧ P 9 ≤ 24 ∧ (∀ c, c < 4 → P (5 + c) ≤ 8) ∧ P 10 ≤ P 2 ∧ P 11 ≤ P 0 ∧ P 12 ≤ P 3 := zh.2.2.1
theorem Dr.sz {d b : Nat} {P : Nat → Nat} {S : CS} {M : MS} (zh : Dr d b P S M) : ∀ w, w < 4 → gI S (d + 1 + 2 * w) 1 = nI (P w) ∧ gI M 2 (5 * b + w) = nI (P w) := zh.2.2.2.1
theorem Dr.cn {d b : Nat} {P : Nat → Nat} {S : CS} {M : MS} (zh : Dr d b P S M) : gI S d 8 = nI (P 9) ∧ gI M 2 (5 * b + 4) = nI (P 9) := zh.2.2.2.2.1
theorem Dr.nm {d b : Nat} {P : Nat → Nat} {S : CS} {M : MS} (zh : Dr d b P S M) : ∀ w, w < 4 → ∀ j, j < P w → NR (gL S (d + 1 + 2 * w + 1) j) (gL M (mc w) (lim w * b + j)) := zh.2.2.2.2.2.1
theorem Dr.ps {d b : Nat} {P : Nat → Nat} {S : CS} {M : MS} (zh : Dr d b P S M) : ∀ c, c < 4 → gI S (d + 13 + 2 * c) 1 = nI (P (5 + c)) ∧ (c < P 10 → gI M 9 (4 * b + c) = nI (P (5 + c))) := zh.2.2.2.2.2.2.1
theorem Dr.pn {d b : Nat} {P : Nat → Nat} {S : CS} {M : MS} (zh : Dr d b P S M) : ∀ c, c < P 10 → ∀ j, j < P (5 + c) → NR (gL S (d + 13 + 2 * c + 1) j) (gL M 6 (8 * (4 * b + c) + j)) := zh.2.2.2.2.2.2.2.1
theorem Dr.pz {d b : Nat} {P : Nat → Nat} {S : CS} {M : MS} (zh : Dr d b P S M) : ∀ c, P 10 ≤ c → c < 4 → P (5 + c) = 0 := zh.2.2.2.2.2.2.2.2.1
theorem Dr.mb {d b : Nat} {P : Nat → Nat} {S : CS} {M : MS} (zh : Dr d b P S M) : ∀ a, a < 4 → ∀ t, t < 32 → bt (gI S (d + 10) a) t = (decide (t < P 11) && bt (gI M 8 (12 * b + t)) a) := zh.2.2.2.2.2.2.2.2.2.1
theorem Dr.bv {d b : Nat} {P : Nat → Nat} {S : CS} {M : MS} (zh : Dr d b P S M) : ∀ j, j < P 12 → gB S (d + 11) j = gB M 10 (3 * b + j) := zh.2.2.2.2.2.2.2.2.2.2.1
theorem Dr.ru {d b : Nat} {P : Nat → Nat} {S : CS} {M : MS} (zh : Dr d b P S M) : ∀ j, j < P 4 → RuD S M (d + 21 + 4 * j) (24 * b + j) (P 0) (P 3) := zh.2.2.2.2.2.2.2.2.2.2.2
abbrev DC (d : Nat) (P : Nat → Nat) (S : CS) : Prop := (d = 7 ∨ d = 124) ∧ (gR S 2 1 = d) ∧ (∀ w, w < 4 → P w ≤ lim w ∧ gI S (d + 1 + 2 * w) 1 = nI (P w) ∧ ∀ j, j < P w → gL S (d + 1 + 2 * w + 1) j ≠ 0) ∧ (∀ c, c < 4 → P (5 + c) ≤ 8 ∧ gI S (d + 13 + 2 * c) 1 = nI (P (5 + c)))
theorem DC.hd {d : Nat} {P : Nat → Nat} {S : CS} (zh : DC d P S) : d = 7 ∨ d = 124 := zh.1
theorem DC.ptr {d : Nat} {P : Nat → Nat} {S : CS} (zh : DC d P S) : gR S 2 1 = d := zh.2.1
theorem DC.nn {d : Nat} {P : Nat → Nat} {S : CS} (zh : DC d P S) : ∀ w, w < 4 → P w ≤ lim w ∧ gI S (d + 1 + 2 * w) 1 = nI (P w) ∧ ∀ j, j < P w → gL S (d + 1 + 2 * w + 1) j ≠ 0 := zh.2.2.1
theorem DC.pp {d : Nat} {P : Nat → Nat} {S : CS} (zh : DC d P S) : ∀ c, c < 4 → P (5 + c) ≤ 8 ∧ gI S (d + 13 + 2 * c) 1 = nI (P (5 + c)) := zh.2.2.2
def xD (d m k j : Nat) : Prop := (k = 2 ∧ j = 1) ∨ (d ≤ k ∧ k < d + 21 + 4 * m)
def yD (b m k j : Nat) : Prop := (k = 2 ∧ 5 * b ≤ j ∧ j < 5 * b + 5) ∨ (k = 3 ∧ 12 * b ≤ j ∧ j < 12 * b + 12) ∨ (k = 4 ∧ 4 * b ≤ j ∧ j < 4 * b + 4) ∨ (k = 5 ∧ 4 * b ≤ j ∧ j < 4 * b + 4) ∨ (k = 6 ∧ 32 * b ≤ j ∧ j < 32 * b + 32) ∨ (k = 7 ∧ 3 * b ≤ j ∧ j < 3 * b + 3) ∨ (k = 8 ∧ 12 * b ≤ j ∧ j < 12 * b + 12) ∨ (k = 9 ∧ 4 * b ≤ j ∧ j < 4 * b + 4) ∨ (k = 10 ∧ 3 * b ≤ j ∧ j < 3 * b + 3) ∨ (11 ≤ k ∧ k ≤ 19 ∧ 24 * b ≤ j ∧ j < 24 * b + m) ∨ (k = 20 ∧ 96 * b ≤ j ∧ j < 96 * b + 4 * m) ∨ ((k = 21 ∨ k = 22) ∧ 48 * b ≤ j ∧ j < 48 * b + 2 * m)
def xF (d k j : Nat) : Prop := ¬ ((k = 2 ∧ 2 ≤ j ∧ j ≤ 5) ∨ (k = 3 ∧ (j = 3 ∨ j = 4)) ∨ (4 ≤ k ∧ k ≤ 6) ∨ (d ≤ k ∧ k < d + 117))
def yF (b k j : Nat) : Prop := ¬ ((k = 0 ∧ ((3 ≤ j ∧ j ≤ 8) ∨ j = 11)) ∨ yD b 24 k j)
theorem y_2 {b m j : Nat} (h1 : 5 * b ≤ j) (h2 : j < 5 * b + 5) : yD b m 2 j := Or.inl ⟨rfl, h1, h2⟩
theorem y_3 {b m j : Nat} (h1 : 12 * b ≤ j) (h2 : j < 12 * b + 12) : yD b m 3 j := Or.inr (Or.inl ⟨rfl, h1, h2⟩)
theorem y_4 {b m j : Nat} (h1 : 4 * b ≤ j) (h2 : j < 4 * b + 4) : yD b m 4 j := Or.inr (Or.inr (Or.inl ⟨rfl, h1, h2⟩))
theorem y_5 {b m j : Nat} (h1 : 4 * b ≤ j) (h2 : j < 4 * b + 4) : yD b m 5 j := Or.inr (Or.inr (Or.inr (Or.inl ⟨rfl, h1, h2⟩)))
theorem y_6 {b m j : Nat} (h1 : 32 * b ≤ j) (h2 : j < 32 * b + 32) : yD b m 6 j := Or.inr (Or.inr (Or.inr (Or.inr (Or.inl ⟨rfl, h1, h2⟩))))
theorem y_7 {b m j : Nat} (h1 : 3 * b ≤ j) (h2 : j < 3 * b + 3) : yD b m 7 j := Or.inr (Or.inr (Or.inr (Or.inr (Or.inr (Or.inl ⟨rfl, h1, h2⟩)))))
theorem y_8 {b m j : Nat} (h1 : 12 * b ≤ j) (h2 : j < 12 * b + 12) : yD b m 8 j := Or.inr (Or.inr (Or.inr (Or.inr (Or.inr (Or.inr (Or.inl ⟨rfl, h1, h2⟩))))))
theorem y_9 {b m j : Nat} (h1 : 4 * b ≤ j) (h2 : j < 4 * b + 4) : yD b m 9 j := Or.inr (Or.inr (Or.inr (Or.inr (Or.inr (Or.inr (Or.inr (Or.inl ⟨rfl, h1, h2⟩)))))))
theorem y_10 {b m j : Nat} (h1 : 3 * b ≤ j) (h2 : j < 3 * b + 3) : yD b m 10 j := Or.inr (Or.inr (Or.inr (Or.inr (Or.inr (Or.inr (Or.inr (Or.inr (Or.inl ⟨rfl, h1, h2⟩))))))))
theorem y_11 {b m k j : Nat} (g1 : 11 ≤ k) (g2 : k ≤ 19) (h1 : 24 * b ≤ j) (h2 : j < 24 * b + m) : yD b m k j := Or.inr (Or.inr (Or.inr (Or.inr (Or.inr (Or.inr (Or.inr (Or.inr (Or.inr (Or.inl ⟨g1, g2, h1, h2⟩)))))))))
theorem y_20 {b m j : Nat} (h1 : 96 * b ≤ j) (h2 : j < 96 * b + 4 * m) : yD b m 20 j := Or.inr (Or.inr (Or.inr (Or.inr (Or.inr (Or.inr (Or.inr (Or.inr (Or.inr (Or.inr (Or.inl ⟨rfl, h1, h2⟩))))))))))
theorem y_21 {b m k j : Nat} (g : k = 21 ∨ k = 22) (h1 : 48 * b ≤ j) (h2 : j < 48 * b + 2 * m) : yD b m k j := Or.inr (Or.inr (Or.inr (Or.inr (Or.inr (Or.inr (Or.inr (Or.inr (Or.inr (Or.inr (Or.inr ⟨g, h1, h2⟩))))))))))
theorem ny_0 {b m k j : Nat} (h : k < 2 ∨ 22 < k) : ¬ yD b m k j := by unfold yD; omega
theorem ny_11 {b m k j : Nat} (g1 : 11 ≤ k) (g2 : k ≤ 19) (h : ¬ (24 * b ≤ j ∧ j < 24 * b + m)) : ¬ yD b m k j := by unfold yD; omega
theorem ny_20 {b m j : Nat} (h : ¬ (96 * b ≤ j ∧ j < 96 * b + 4 * m)) : ¬ yD b m 20 j := by unfold yD; omega
theorem ny_21 {b m k j : Nat} (g : k = 21 ∨ k = 22) (h : ¬ (48 * b ≤ j ∧ j < 48 * b + 2 * m)) : ¬ yD b m k j := by unfold yD; omega
theorem nf_y {b k j : Nat} (h : yD b 24 k j) : ¬ yF b k j := fun g => g (Or.inr h)
theorem nf_r {b j : Nat} (h : (3 ≤ j ∧ j ≤ 8) ∨ j = 11) : ¬ yF b 0 j := fun g => g (Or.inl ⟨rfl, h⟩)
theorem yF_tk {b k j : Nat} (h : yF b k j) : yTk k j := fun g => h (Or.inl g)
theorem yD_tk {b m k j : Nat} (h : yD b m k j) : yTk k j := fun g => ny_0 (b := b) (m := m) (j := j) (Or.inl (by omega : k < 2)) h
section DFR
variable {S S' : CS} {M M' : MS} {d b : Nat} {P : Nat → Nat}
theorem SetR.fr {q s : Nat} (h : SetR S M q s) (hc : ∀ j, gI S' q j = gI S q j ∧ gB S' q j = gB S q j) (h1 : gI M' 21 s = gI M 21 s) (h2 : gI M' 22 s = gI M 22 s) : SetR S' M' q s := by
  obtain ⟨g1, g2, g3, g4, g5, g6⟩ := h
  refine ⟨?_, ?_, ?_, ?_, ?_, ?_⟩
  · rw [(hc 0).2, h1]; exact g1
  · rw [(hc 1).2, h1]; exact g2
  · rw [(hc 2).1, h1]; exact g3
  · rw [(hc 3).1, h1]; exact g4
  · rw [(hc 4).1, h2]; exact g5
  · rw [(hc 5).1, h2]; exact g6
theorem RuD.fr {k r nt nb : Nat} (h : RuD S M k r nt nb) (hc : ∀ a j, k ≤ a → a ≤ k + 3 → gI S' a j = gI S a j ∧ gL S' a j = gL S a j ∧ gR S' a j = gR S a j ∧ gB S' a j = gB S a j) (hm : ∀ a, 11 ≤ a → a ≤ 19 → gI M' a r = gI M a r ∧ gB M' a r = gB M a r) (hm2 : ∀ c, c < 4 → gI M' 20 (4 * r + c) = gI M 20 (4 * r + c)) (hm3 : ∀ e, e < 2 → gI M' 21 (2 * r + e) = gI M 21 (2 * r + e) ∧ gI M' 22 (2 * r + e) = gI M 22 (2 * r + e)) : RuD S' M' k r nt nb := by
  obtain ⟨h1, h2, h3, h4, h5, h6, h7, h8, h9⟩ := h
  have cI : ∀ j, gI S' k j = gI S k j := fun j => (hc k j (by omega) (by omega)).1
  have cR : ∀ j, gR S' k j = gR S k j := fun j => (hc k j (by omega) (by omega)).2.2.1
  have cB : ∀ j, gB S' k j = gB S k j := fun j => (hc k j (by omega) (by omega)).2.2.2
  have c3 : ∀ j, gI S' (k + 3) j = gI S (k + 3) j := fun j => (hc (k + 3) j (by omega) (by omega)).1
  have mI : ∀ a, 11 ≤ a → a ≤ 19 → gI M' a r = gI M a r := fun a g1 g2 => (hm a g1 g2).1
  have mB : ∀ a, 11 ≤ a → a ≤ 19 → gB M' a r = gB M a r := fun a g1 g2 => (hm a g1 g2).2
  have m11 := mI 11 (by omega) (by omega)
  have m12 := mI 12 (by omega) (by omega)
  have m13 := mI 13 (by omega) (by omega)
  have m16 := mI 16 (by omega) (by omega)
  have m17 := mI 17 (by omega) (by omega)
  have m18 := mB 18 (by omega) (by omega)
  have m19 := mB 19 (by omega) (by omega)
  refine ⟨?_, ?_, ?_, ?_, ?_, ?_, ?_, ?_, ?_⟩
  · rw [cR, m11]; exact h1
  · rw [cI, m12]; exact h2
  · rw [cI, m13, cB, m18]; exact h3
  · rw [cB, m19]; exact h4
  · exact h5.fr (fun j => ⟨(hc _ j (by omega) (by omega)).1, (hc _ j (by omega) (by omega)).2.2.2⟩) (hm3 0 (by omega)).1 (hm3 0 (by omega)).2
  · intro g
    rw [cB] at g
    exact (h6 g).fr (fun j => ⟨(hc _ j (by omega) (by omega)).1, (hc _ j (by omega) (by omega)).2.2.2⟩) (hm3 1 (by omega)).1 (hm3 1 (by omega)).2
  · rw [cI, m16]; exact h7
  · intro c hcc
    rw [c3, hm2 c hcc, cI]; exact h8 c hcc
  · rw [m11, cI, m17]; exact h9
theorem RuD.mono {k r nt nb nt' nb' : Nat} (h : RuD S M k r nt nb) (h1 : nt ≤ nt') (h2 : nb ≤ nb') : RuD S M k r nt' nb' := by
  obtain ⟨g1, g2, g3, g4, g5, g6, g7, g8, g9⟩ := h
  refine ⟨g1, g2, ?_, g4, g5, g6, g7, g8, ?_⟩
  · rcases g3 with g | ⟨c, hc, g⟩
    · exact Or.inl g
    · exact Or.inr ⟨c, by omega, g⟩
  · intro g
    obtain ⟨t, ht, g'⟩ := g9 g
    exact ⟨t, by omega, g'⟩
theorem lim_le (w : Nat) : lim w ≤ 12 ∧ 3 ≤ lim w := by
  unfold lim
  split
  · omega
  · split <;> omega
theorem mcD {m w j : Nat} (hw : w < 4) (hj : j < lim w) : yD b m (mc w) (lim w * b + j) := by
  have : w = 0 ∨ w = 1 ∨ w = 2 ∨ w = 3 := by omega
  rcases this with rfl | rfl | rfl | rfl
  · have hj : j < 12 := hj
    show yD b m 3 (12 * b + j)
    exact y_3 (by omega) (by omega)
  · have hj : j < 4 := hj
    show yD b m 4 (4 * b + j)
    exact y_4 (by omega) (by omega)
  · have hj : j < 4 := hj
    show yD b m 5 (4 * b + j)
    exact y_5 (by omega) (by omega)
  · have hj : j < 3 := hj
    show yD b m 7 (3 * b + j)
    exact y_7 (by omega) (by omega)
theorem Dr.fr (h : Dr d b P S M) (hc : eqC (xD d (P 4)) S S') (hm : eqC (yD b (P 4)) M M') : Dr d b P S' M' := by
  obtain ⟨hd, ptr, lm, sz, cn, nm, ps, pn, pz, mb, bv, ru⟩ := h
  have hb := hd.2
  have hl4 := lm.2.1
  have hl9 := lm.2.2.1
  have X : ∀ k j, d ≤ k → k < d + 21 + 4 * P 4 → gI S' k j = gI S k j ∧ gL S' k j = gL S k j ∧ gR S' k j = gR S k j ∧ gB S' k j = gB S k j := fun k j g1 g2 => hc k j (Or.inr ⟨g1, g2⟩)
  have hlm := fun w => lim_le w
  refine ⟨hd, (hc 2 1 (Or.inl ⟨rfl, rfl⟩)).2.2.1.trans ptr, lm, fun w hw => ⟨(X _ _ (by omega) (by omega)).1.trans (sz w hw).1, (hm _ _ (y_2 (by omega) (by omega))).1.trans (sz w hw).2⟩, ⟨(X _ _ (by omega) (by omega)).1.trans cn.1, (hm _ _ (y_2 (by omega) (by omega))).1.trans cn.2⟩, fun w hw j hj => ?_, fun c hc' => ⟨(X _ _ (by omega) (by omega)).1.trans (ps c hc').1, fun g => (hm _ _ (y_9 (by omega) (by omega))).1.trans ((ps c hc').2 g)⟩, fun c hc' j hj => ?_, pz, fun a ha t ht => ?_, fun j hj => ?_, fun j hj => ?_⟩
  · rw [(X _ j (by omega) (by omega)).2.1, (hm _ _ (mcD hw (Nat.lt_of_lt_of_le hj (lm.1 w hw)))).2.1]
    exact nm w hw j hj
  · have h2 := lm.1 2 (by omega)
    have h2' : P 2 ≤ 4 := h2
    have h10 := lm.2.2.2.2.1
    have h8 := lm.2.2.2.1 c (by omega)
    rw [(X _ j (by omega) (by omega)).2.1, (hm 6 _ (y_6 (by omega) (by omega))).2.1]
    exact pn c hc' j hj
  · by_cases g : t < P 11
    · have h0 : P 0 ≤ 12 := lm.1 0 (by omega)
      have h11 := lm.2.2.2.2.2.1
      rw [(X _ _ (by omega) (by omega)).1, (hm 8 _ (y_8 (by omega) (by omega))).1]
      exact mb a ha t ht
    · rw [(X _ _ (by omega) (by omega)).1, mb a ha t ht, decide_eq_false g]
      rfl
  · have h3 : P 3 ≤ 3 := lm.1 3 (by omega)
    have h12 := lm.2.2.2.2.2.2
    rw [(X _ _ (by omega) (by omega)).2.2.2, (hm 10 _ (y_10 (by omega) (by omega))).2.2.2]
    exact bv j hj
  · exact (ru j hj).fr (fun a i g1 g2 => X a i (by omega) (by omega)) (fun a g1 g2 => ⟨(hm a _ (y_11 g1 g2 (by omega) (by omega))).1, (hm a _ (y_11 g1 g2 (by omega) (by omega))).2.2.2⟩) (fun c hcc => (hm 20 _ (y_20 (by omega) (by omega))).1) (fun e he => ⟨(hm 21 _ (y_21 (Or.inl rfl) (by omega) (by omega))).1, (hm 22 _ (y_21 (Or.inr rfl) (by omega) (by omega))).1⟩)
theorem Dr.dc (h : Dr d b P S M) : DC d P S := ⟨h.hd.1, h.ptr, fun w hw => ⟨h.lm.1 w hw, (h.sz w hw).1, fun j hj => (h.nm w hw j hj).ne.1⟩, fun c hc => ⟨h.lm.2.2.2.1 c hc, (h.ps c hc).1⟩⟩
theorem DC.fr (h : DC d P S) (hc : eqC (xD d 0) S S') : DC d P S' := by
  obtain ⟨hd, ptr, nn, pp⟩ := h
  have X : ∀ k j, d ≤ k → k < d + 21 → gI S' k j = gI S k j ∧ gL S' k j = gL S k j := fun k j g1 g2 => ⟨(hc k j (Or.inr ⟨g1, by omega⟩)).1, (hc k j (Or.inr ⟨g1, by omega⟩)).2.1⟩
  exact ⟨hd, (hc 2 1 (Or.inl ⟨rfl, rfl⟩)).2.2.1.trans ptr, fun w hw => ⟨(nn w hw).1, (X _ _ (by omega) (by omega)).1.trans (nn w hw).2.1, fun j hj => by rw [(X _ _ (by omega) (by omega)).2]; exact (nn w hw).2.2 j hj⟩, fun c hcc => ⟨(pp c hcc).1, (X _ _ (by omega) (by omega)).1.trans (pp c hcc).2⟩⟩
theorem kd_d (h : d = 7 ∨ d = 124) : kd d = 7 := by
  rcases h with rfl | rfl <;> decide
theorem ln_d {w : Nat} (h : d = 7 ∨ d = 124) (hw : w < 4) : ln (d + 1 + 2 * w + 1) = lim w := by
  have : w = 0 ∨ w = 1 ∨ w = 2 ∨ w = 3 := by omega
  rcases h with rfl | rfl <;> rcases this with rfl | rfl | rfl | rfl <;> decide
theorem ln_p {c : Nat} (h : d = 7 ∨ d = 124) (hc : c < 4) : ln (d + 13 + 2 * c + 1) = 8 := by
  have : c = 0 ∨ c = 1 ∨ c = 2 ∨ c = 3 := by omega
  rcases h with rfl | rfl <;> rcases this with rfl | rfl | rfl | rfl <;> decide
theorem lnM_w {w : Nat} (hw : w < 4) : lnM (mc w) = 2 * lim w := by
  have : w = 0 ∨ w = 1 ∨ w = 2 ∨ w = 3 := by omega
  rcases this with rfl | rfl | rfl | rfl <;> decide
/-- the class alone looks a name up -/
theorem num_c {k n : Nat} {x : Int64} (hn : gI S k 1 = nI n) (hn1 : n ≤ ln (k + 1)) (hl : ln (k + 1) ≤ 12) : ∃ r : Int32, cNames_numberOf k x S = some r ∧ ((r = -1 ∧ ∀ j, j < n → gL S (k + 1) j ≠ x) ∨ ∃ j, j < n ∧ r = nI j ∧ gL S (k + 1) j = x) := by
  have key : ∀ q i, i + q = n → ∀ f, q < f → ∃ r : Int32, cNames_numberOf_L2 k x S f (nI i) = some r ∧ ((r = -1 ∧ ∀ j, i ≤ j → j < n → gL S (k + 1) j ≠ x) ∨ ∃ j, j < n ∧ r = nI j ∧ gL S (k + 1) j = x) := by
    intro q
    induction q with
    | zero =>
      intro i hi f hf
      obtain ⟨f, rfl⟩ := Nat.exists_eq_add_of_lt hf
      refine ⟨-1, ?_, Or.inl ⟨rfl, fun j g1 g2 => by omega⟩⟩
      rw [Nat.zero_add, cNames_numberOf_L2, hn, if_pos (nI_le (by omega) (by omega))]
    | succ q ih =>
      intro i hi f hf
      obtain ⟨f, rfl⟩ := Nat.exists_eq_add_of_lt hf
      rw [cNames_numberOf_L2, hn, if_neg (nI_ge (by omega) (by omega)), if_pos (inb_nI (show i < ln (k + 1) by omega) (by omega)), tx_nI (show i < 2 ^ 31 by omega)]
      by_cases e : gL S (k + 1) i = x
      · rw [if_pos e]
        exact ⟨nI i, rfl, Or.inr ⟨i, by omega, rfl, e⟩⟩
      · rw [if_neg e]
        simp only [bd, nI_1]
        obtain ⟨r, g1, g2⟩ := ih (i + 1) (by omega) (q + 1 + f) (by omega)
        refine ⟨r, g1, ?_⟩
        rcases g2 with ⟨g2, g3⟩ | g2
        · refine Or.inl ⟨g2, fun j h1 h2 => ?_⟩
          by_cases hj : j = i
          · rw [hj]; exact e
          · exact g3 j (by omega) h2
        · exact Or.inr g2
  obtain ⟨r, g1, g2⟩ := key n 0 (by omega) 600 (by omega)
  refine ⟨r, g1, ?_⟩
  rcases g2 with ⟨g2, g3⟩ | g2
  · exact Or.inl ⟨g2, fun j hj => g3 j (by omega) hj⟩
  · exact Or.inr g2
theorem DC.n0 (h : DC d P S) {w : Nat} (hw : w < 4) : cNames_numberOf (d + 1 + 2 * w) 0 S = some (-1) := by
  have hl := ln_d h.hd hw
  have h12 := lim_le w
  obtain ⟨g1, g2, g3⟩ := h.nn w hw
  obtain ⟨r, e1, e2⟩ := num_c (x := 0) g2 (by omega) (by omega)
  rcases e2 with ⟨e2, -⟩ | ⟨j, hj, -, e3⟩
  · rw [e1, e2]
  · exact absurd e3 (g3 j hj)
theorem Dr.lk (h : Dr d b P S M) {w : Nat} (hw : w < 4) {x y : Int64} (hxy : NR x y) : ∃ r : Int32, cNames_numberOf (d + 1 + 2 * w) x S = some r ∧ m_find (mc w) (nI (lim w * b)) (nI (P w)) y M = some r ∧ (r = -1 ∨ ∃ j, j < P w ∧ r = nI j) := by
  have hl := ln_d h.hd.1 hw
  have hm := lnM_w hw
  have h12 := lim_le w
  have hp := h.lm.1 w hw
  have hb := h.hd.2
  have hbl : lim w * b ≤ lim w := by
    have := Nat.mul_le_mul_left (lim w) hb
    omega
  exact num_eq (h.sz w hw).1 (by omega) (by omega) (by omega) (by omega) (fun j hj => (h.nm w hw j hj).eq hxy)
end DFR
