/-! a rule -/
def xU (d m k j : Nat) : Prop := ¬ (k = 3 ∧ j = 4) ∧ ¬ (d + 21 + 4 * m ≤ k ∧ k < d + 25 + 4 * m) ∧ ¬ (k = d ∧ j = 8)
def yU (b m k j : Nat) : Prop := yTk k j ∧ ¬ yR b m k j ∧ ¬ (k = 2 ∧ j = 5 * b + 4)
section RUL
variable {E : EnvR} {P : Nat → Nat} {S S' S0 : CS} {M M' M'' : MS} {i k r d b : Nat} {X Y : CS → MS → Prop} {Q2 : CS → MS → Prop}
theorem Dr.rc1 (h : Dr d b P S M) (h24 : P 9 < 24) : Dr d b (up P 9 (P 9 + 1)) (pI S d 8 (nI (P 9 + 1))) (pI M 2 (5 * b + 4) (nI (P 9 + 1))) := by
  obtain ⟨hd, ptr, lm, sz, cn, nm, ps, pn, pz, mb, bv, ru⟩ := h
  have u : ∀ n, n ≠ 9 → up P 9 (P 9 + 1) n = P n := fun n hn => up_ne hn
  have hdd := hd.1
  have u0 := u 0 (by omega)
  have u2 := u 2 (by omega)
  have u3 := u 3 (by omega)
  have u4 := u 4 (by omega)
  have u10 := u 10 (by omega)
  have u11 := u 11 (by omega)
  have u12 := u 12 (by omega)
  refine ⟨hd, ptr, ⟨fun w hw => ?_, ?_, ?_, fun c hc => ?_, ?_, ?_, ?_⟩, fun w hw => ?_, ?_, fun w hw j hj => ?_, fun c hc => ?_, fun c hc j hj => ?_, fun c h1 h2 => ?_, fun a ha t ht => ?_, fun j hj => ?_, fun j hj => ?_⟩
  · rw [u w (by omega)]; exact lm.1 w hw
  · rw [u4, up_eq]; exact Nat.le_succ_of_le lm.2.1
  · rw [up_eq]; omega
  · rw [u _ (by omega)]; exact lm.2.2.2.1 c hc
  · rw [u10, u2]; exact lm.2.2.2.2.1
  · rw [u11, u0]; exact lm.2.2.2.2.2.1
  · rw [u12, u3]; exact lm.2.2.2.2.2.2
  · rw [u w (by omega), gI_other _ _ (by omega), gI_other _ _ (by omega)]; exact sz w hw
  · rw [up_eq, gI_same, gI_same]; exact ⟨rfl, rfl⟩
  · rw [u w (by omega)] at hj
    exact nm w hw j hj
  · rw [u _ (by omega), u10, gI_other _ _ (by omega), gI_other _ _ (by omega)]; exact ps c hc
  · rw [u10] at hc
    have h2 : P 2 ≤ 4 := lm.1 2 (by omega)
    have h10 := lm.2.2.2.2.1
    rw [u _ (by omega)] at hj
    exact pn c hc j hj
  · rw [u10] at h1
    rw [u _ (by omega)]
    exact pz c h1 h2
  · rw [u11, gI_other _ _ (by omega), gI_other _ _ (by omega)]; exact mb a ha t ht
  · rw [u12] at hj
    exact bv j hj
  · rw [u4] at hj
    rw [u0, u3]
    refine (ru j hj).fr (fun a c g1 g2 => ⟨?_, rfl, rfl, rfl⟩) (fun a g1 g2 => ⟨?_, rfl⟩) (fun c hc => ?_) (fun e he => ⟨?_, ?_⟩)
    · rw [gI_other _ _ (by omega)]
    · rw [gI_other _ _ (by omega)]
    · rw [gI_other _ _ (by omega)]
    · rw [gI_other _ _ (by omega)]
    · rw [gI_other _ _ (by omega)]
theorem Dr.ru1 (h : Dr d b P S M) (h9 : P 4 < P 9) (hr : RuD S M (d + 21 + 4 * P 4) (24 * b + P 4) (P 0) (P 3)) : Dr d b (up P 4 (P 4 + 1)) S M := by
  obtain ⟨hd, ptr, lm, sz, cn, nm, ps, pn, pz, mb, bv, ru⟩ := h
  have u : ∀ n, n ≠ 4 → up P 4 (P 4 + 1) n = P n := fun n hn => up_ne hn
  refine ⟨hd, ptr, ⟨fun w hw => ?_, ?_, ?_, fun c hc => ?_, ?_, ?_, ?_⟩, fun w hw => ?_, ?_, fun w hw j hj => ?_, fun c hc => ?_, fun c hc j hj => ?_, fun c h1 h2 => ?_, fun a ha t ht => ?_, fun j hj => ?_, fun j hj => ?_⟩
  · rw [u w (by omega)]; exact lm.1 w hw
  · rw [up_eq, u 9 (by omega)]; exact h9
  · rw [u 9 (by omega)]; exact lm.2.2.1
  · rw [u _ (by omega)]; exact lm.2.2.2.1 c hc
  · rw [u 10 (by omega), u 2 (by omega)]; exact lm.2.2.2.2.1
  · rw [u 11 (by omega), u 0 (by omega)]; exact lm.2.2.2.2.2.1
  · rw [u 12 (by omega), u 3 (by omega)]; exact lm.2.2.2.2.2.2
  · rw [u w (by omega)]; exact sz w hw
  · rw [u 9 (by omega)]; exact cn
  · rw [u w (by omega)] at hj
    exact nm w hw j hj
  · rw [u _ (by omega), u 10 (by omega)]; exact ps c hc
  · rw [u 10 (by omega)] at hc
    rw [u _ (by omega)] at hj
    exact pn c hc j hj
  · rw [u 10 (by omega)] at h1
    rw [u _ (by omega)]
    exact pz c h1 h2
  · rw [u 11 (by omega)]; exact mb a ha t ht
  · rw [u 12 (by omega)] at hj
    exact bv j hj
  · rw [up_eq] at hj
    rw [u 0 (by omega), u 3 (by omega)]
    by_cases e : j = P 4
    · rw [e]; exact hr
    · exact ru j (by omega)
theorem DC.up {n v : Nat} (h : DC d P S) (h1 : n = 4 ∨ 9 ≤ n) : DC d (up P n v) S := by
  obtain ⟨hd, ptr, nn, pp⟩ := h
  refine ⟨hd, ptr, fun w hw => ?_, fun c hc => ?_⟩
  · rw [up_ne (by omega)]; exact nn w hw
  · rw [up_ne (by omega)]; exact pp c hc
theorem bg43 : ∀ e c, c + e = 4 → ∀ f, e < f → ∀ S : CS, ∃ S', cRule_begin_L43 k f (nI c) S = some S' ∧ eqC (fun a _ => a ≠ k + 3) S S' ∧ (∀ c', c' < c → gI S' (k + 3) c' = gI S (k + 3) c') ∧ ∀ c', c ≤ c' → c' < 4 → gI S' (k + 3) c' = 0 := by
  intro e
  induction e with
  | zero =>
    intro c hc f hf S
    obtain ⟨f, rfl⟩ := Nat.exists_eq_add_of_lt hf
    exact ⟨S, by rw [Nat.zero_add, cRule_begin_L43, if_pos (show (4 : Int32) ≤ nI c from nI_le (a := 4) (by omega) (by omega))], eqC.rf _ _, fun _ _ => rfl, fun c' h1 h2 => by omega⟩
  | succ e ih =>
    intro c hc f hf S
    obtain ⟨f, rfl⟩ := Nat.exists_eq_add_of_lt hf
    rw [cRule_begin_L43, if_neg (show ¬ (4 : Int32) ≤ nI c from nI_ge (b := 4) (by omega) (by omega)), if_pos (inb_nI (show c < 4 by omega) (by omega)), tx_nI (show c < 2 ^ 31 by omega)]
    simp only [bd]
    rw [nI_1]
    obtain ⟨S', e1, e2, e3, e4⟩ := ih (c + 1) (by omega) (e + 1 + f) (by omega) (pI S (k + 3) c 0)
    refine ⟨S', e1, ((eqC.rf _ _).I _ (fun z => z rfl)).tr e2, fun c' h1 => ?_, fun c' h1 h2 => ?_⟩
    · rw [e3 c' (by omega), gI_other _ _ (by omega)]
    · by_cases ec : c' = c
      · subst ec
        rw [e3 c' (by omega), gI_same]
      · exact e4 c' (by omega) h2
theorem bg (w : Nat) (p cnd : Int32) (be : Bool) (S : CS) : ∃ S', cRule_begin k w p cnd be S = some S' ∧ eqC (fun a _ => ¬ (k ≤ a ∧ a < k + 4)) S S' ∧ gR S' k 0 = w ∧ gI S' k 1 = p ∧ gI S' k 2 = cnd ∧ gB S' k 3 = be ∧ Z4 S' (k + 1) ∧ Z4 S' (k + 2) ∧ gI S' k 9 = 0 ∧ ∀ c, c < 4 → gI S' (k + 3) c = 0 := by
  unfold cRule_begin cTypeSet_clearNames
  simp only [bd, Option.bind_some]
  generalize hT : pI (pI (pI (pI (pI (pI (pI (pI (pI (pB (pI (pI (pR S k 0 w) k 1 p) k 2 cnd) k 3 be) (k + 1) 2 0) (k + 1) 3 0) (k + 1) 4 0) (k + 1) 5 0) (k + 2) 2 0) (k + 2) 3 0) (k + 2) 4 0) (k + 2) 5 0) k 9 0 = T
  obtain ⟨S', e1, e2, -, e4⟩ := bg43 (k := k) 4 0 (by omega) 600 (by omega) T
  have e1' : cRule_begin_L43 k 600 0 T = some S' := e1
  have hq : eqC (fun a _ => ¬ (k ≤ a ∧ a < k + 4)) S T := by
    rw [← hT]
    exact (((((((((((((eqC.rf _ _).R _ (by omega)).I _ (by omega)).I _ (by omega)).B _ (by omega)).I _ (by omega)).I _ (by omega)).I _ (by omega)).I _ (by omega)).I _ (by omega)).I _ (by omega)).I _ (by omega)).I _ (by omega)).I _ (by omega)
  have rI : ∀ a j, a ≠ k + 3 → gI S' a j = gI T a j := fun a j ha => (e2 a j ha).1
  refine ⟨S', e1', hq.tr (e2.mono (fun a j g => by omega)), ?_, ?_, ?_, ?_, ⟨?_, ?_, ?_, ?_⟩, ⟨?_, ?_, ?_, ?_⟩, ?_, fun c hc => e4 c (by omega) hc⟩
  · rw [(e2 k 0 (by omega)).2.2.1, ← hT]
    show gR (pR S k 0 w) k 0 = w
    rw [gR_pR, if_pos ⟨rfl, rfl⟩]
  · rw [rI _ _ (by omega), ← hT]
    (repeat (first | rw [gI_same] | rw [gI_other _ _ (by omega)] | rw [gI_pL] | rw [gI_pB] | rw [gI_pR]))
  · rw [rI _ _ (by omega), ← hT]
    (repeat (first | rw [gI_same] | rw [gI_other _ _ (by omega)] | rw [gI_pL] | rw [gI_pB] | rw [gI_pR]))
  · rw [(e2 k 3 (by omega)).2.2.2, ← hT]
    show gB (pB (pI (pI (pR S k 0 w) k 1 p) k 2 cnd) k 3 be) k 3 = be
    rw [gB_same]
  · rw [rI _ _ (by omega), ← hT]; (repeat (first | rw [gI_same] | rw [gI_other _ _ (by omega)] | rw [gI_pL] | rw [gI_pB] | rw [gI_pR]))
  · rw [rI _ _ (by omega), ← hT]; (repeat (first | rw [gI_same] | rw [gI_other _ _ (by omega)] | rw [gI_pL] | rw [gI_pB] | rw [gI_pR]))
  · rw [rI _ _ (by omega), ← hT]; (repeat (first | rw [gI_same] | rw [gI_other _ _ (by omega)] | rw [gI_pL] | rw [gI_pB] | rw [gI_pR]))
  · rw [rI _ _ (by omega), ← hT]; (repeat (first | rw [gI_same] | rw [gI_other _ _ (by omega)] | rw [gI_pL] | rw [gI_pB] | rw [gI_pR]))
  · rw [rI _ _ (by omega), ← hT]; (repeat (first | rw [gI_same] | rw [gI_other _ _ (by omega)] | rw [gI_pL] | rw [gI_pB] | rw [gI_pR]))
  · rw [rI _ _ (by omega), ← hT]; (repeat (first | rw [gI_same] | rw [gI_other _ _ (by omega)] | rw [gI_pL] | rw [gI_pB] | rw [gI_pR]))
  · rw [rI _ _ (by omega), ← hT]; (repeat (first | rw [gI_same] | rw [gI_other _ _ (by omega)] | rw [gI_pL] | rw [gI_pB] | rw [gI_pR]))
  · rw [rI _ _ (by omega), ← hT]; (repeat (first | rw [gI_same] | rw [gI_other _ _ (by omega)] | rw [gI_pL] | rw [gI_pB] | rw [gI_pR]))
  · rw [rI _ _ (by omega), ← hT]; (repeat (first | rw [gI_same] | rw [gI_other _ _ (by omega)] | rw [gI_pL] | rw [gI_pB] | rw [gI_pR]))
def tl (v1 v4 v5 : Int32) (M : MS) : Option MS := (m_next M).bind fun q149 => ((m_readSet (2 * v5) q149).bind fun q157 => (if (gI q157 0 7) = 0 then (if (gI q157 0 5) = 1 then (if (gL q157 0 11) = 5001990 then m_readRule_J197 v1 v4 v5 true v5 q157 else m_readRule_J196 v1 v4 v5 v5 q157) else m_readRule_J196 v1 v4 v5 v5 q157) else m_readRule_J196 v1 v4 v5 v5 q157))
theorem l123 {v1 v4 : Int32} (hr : r < 48) : ∀ e c, c + e = 4 → ∀ g, e < g → ∀ M : MS, ∃ M', m_readRule_L123 v1 v4 (nI r) g (nI c) M = tl v1 v4 (nI r) M' ∧ eqC (fun a j => ¬ (a = 20 ∧ 4 * r ≤ j ∧ j < 4 * r + 4)) M M' ∧ (∀ c', c' < c → gI M' 20 (4 * r + c') = gI M 20 (4 * r + c')) ∧ ∀ c', c ≤ c' → c' < 4 → gI M' 20 (4 * r + c') = 0 := by
  intro e
  induction e with
  | zero =>
    intro c hc g hg M
    obtain ⟨g, rfl⟩ := Nat.exists_eq_add_of_lt hg
    exact ⟨M, by rw [Nat.zero_add, m_readRule_L123, if_pos (show (4 : Int32) ≤ nI c from nI_le (a := 4) (by omega) (by omega))]; rfl, eqC.rf _ _, fun _ _ => rfl, fun c' h1 h2 => by omega⟩
  | succ e ih =>
    intro c hc g hg M
    obtain ⟨g, rfl⟩ := Nat.exists_eq_add_of_lt hg
    have r4 := r4x (r := r) (c := c) hr (by omega)
    rw [m_readRule_L123, if_neg (show ¬ (4 : Int32) ≤ nI c from nI_ge (b := 4) (by omega) (by omega)), if_pos r4.1, r4.2]
    simp only [bd]
    rw [nI_1]
    obtain ⟨M', e1, e2, e3, e4⟩ := ih (c + 1) (by omega) (e + 1 + g) (by omega) (pI M 20 (4 * r + c) 0)
    refine ⟨M', e1, ((eqC.rf _ _).I _ (fun z => z ⟨rfl, by omega, by omega⟩)).tr e2, fun c' h1 => ?_, fun c' h1 h2 => ?_⟩
    · rw [e3 c' (by omega), gI_other _ _ (by omega)]
    · by_cases ec : c' = c
      · subst ec
        rw [e3 c' (by omega), gI_same]
      · exact e4 c' (by omega) h2
/-- what stands of a rule from its beginning -/
def RB (S : CS) (M : MS) (k r w p nb : Nat) : Prop := gR S k 0 = w + 5 ∧ gI M 11 r = nI w ∧ gI S k 1 = nI p ∧ gI M 12 r = nI p ∧ ((gI S k 2 = -1 ∧ gI M 13 r = -1) ∨ ∃ c, c < nb ∧ gI S k 2 = nI c ∧ gI M 13 r = nI c ∧ gB S k 3 = !gB M 18 r)
theorem RB.st {w p nb : Nat} {x y : Nat → Nat → Prop} (hx : ∀ j, j < 4 → x k j) (h11 : y 11 r) (h12 : y 12 r) (h13 : y 13 r) (h18 : y 18 r) : Sta x y (fun S M => RB S M k r w p nb) := by
  rintro S M S' M' ⟨g1, g2, g3, g4, g5⟩ e1 e2
  refine ⟨(e1 k 0 (hx 0 (by omega))).2.2.1.trans g1, (e2 11 r h11).1.trans g2, (e1 k 1 (hx 1 (by omega))).1.trans g3, (e2 12 r h12).1.trans g4, ?_⟩
  rw [(e1 k 2 (hx 2 (by omega))).1, (e2 13 r h13).1, (e1 k 3 (hx 3 (by omega))).2.2.2, (e2 18 r h18).2.2.2]
  exact g5
def Cz (S : CS) (M : MS) (k r : Nat) : Prop := ∀ c, c < 4 → gI S (k + 3) c = 0 ∧ gI M 20 (4 * r + c) = 0
theorem Cz.st {x y : Nat → Nat → Prop} (hx : ∀ j, x (k + 3) j) (hy : ∀ c, c < 4 → y 20 (4 * r + c)) : Sta x y (fun S M => Cz S M k r) := fun S M S' M' g e1 e2 c hc => ⟨(e1 _ _ (hx c)).1.trans (g c hc).1, (e2 _ _ (hy c hc)).1.trans (g c hc).2⟩
theorem SetR.sx {q s : Nat} {x y : Nat → Nat → Prop} (hx : ∀ j, x q j) (h1 : y 21 s) (h2 : y 22 s) : Sta x y (fun S M => SetR S M q s) := fun S M S' M' h e1 e2 => h.fr (fun j => ⟨(e1 q j (hx j)).1, (e1 q j (hx j)).2.2.2⟩) (e2 21 s h1).1 (e2 22 s h2).1
end RUL
