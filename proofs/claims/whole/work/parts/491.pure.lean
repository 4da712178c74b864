section MVE
variable {S S' : CS} {M M' : MS} {o : Nat → Int64} {m β nt nc nb nr n s t c : Nat}
theorem cov_eq {k : Nat} (hs : s < 12) (ht : t < 12) (hc : c < 4) : cRule_covers k (nI s) (nI t) (nI c) S = some (bt (gI S k 9) c && bt (tgs S k s) t) := by
  unfold cRule_covers
  rw [hb_eq _ (by omega), Option.bind_some, tg_c hs, Option.bind_some, hb_eq _ (by omega), Option.bind_some]
  cases bt (gI S k 9) c <;> cases bt (tgs S k s) t <;> rfl
def mvb (S : CS) (M : MS) (β s t c i : Nat) : Bool := decide (gI M 11 (24 * β + i) = nI 4) && (bt (gI S (pcl β + 21 + 4 * i) 9) c && bt (tgs S (pcl β + 21 + 4 * i) s) t)
theorem mv_one (hB : BkR S M β) (hP : PoR S M (pcl β) β nt nc nb nr) {i x : Nat} (hs : s < nt) (ht : t < nt) (hc : c < nc) (hi : i < nr) : (∀ f, cPolicy_moved_L3 (pcl β) (nI s) (nI t) (nI c) (nI x) S (f + 1) (nI i) = if mvb S M β s t c i = true then some (gI S (pcl β + 21 + 4 * i) 11) else cPolicy_moved_L3 (pcl β) (nI s) (nI t) (nI c) (nI x) S f (nI (i + 1))) ∧ ∀ g v, m_moved_L13 (nI s) (nI t) (nI c) M (g + 1) v (nI (24 * β + i)) = if mvb S M β s t c i = true then m_moved_L13 (nI s) (nI t) (nI c) M g (gI M 17 (24 * β + i)) (nI (24 * β + (i + 1))) else m_moved_L13 (nI s) (nI t) (nI c) M g v (nI (24 * β + (i + 1))) := by
  have hl := hP.lim
  have hβ := hB.1
  have b5 := bk5 (c := 4) hB.1 (by omega)
  have hR := hP.ru i hi
  obtain ⟨kw, hk1, hk2, hk3⟩ := hR.kind
  have hne : ¬ nI nr ≤ nI i := nI_ge (by omega) (by omega)
  have hne2 : ¬ nI (24 * β + nr) ≤ nI (24 * β + i) := nI_ge (by omega) (by omega)
  have i24 : inbd (nI i) 24 = true := inb_nI (by omega) (by omega)
  have i48 : inbd (nI (24 * β + i)) 48 = true := inb_nI (by omega) (by omega)
  have hmv : mvb S M β s t c i = (decide (kw = 4) && (bt (gI S (pcl β + 21 + 4 * i) 9) c && bt (tgs S (pcl β + 21 + 4 * i) s) t)) := by
    unfold mvb
    rw [hk3]
    by_cases h4 : kw = 4
    · simp [h4]
    · rw [decide_eq_false h4, decide_eq_false (fun z => h4 ((nI_eq (by omega) (by omega)).mp z))]
  rw [hmv]
  refine ⟨fun f => ?_, fun g v => ?_⟩
  · rw [cPolicy_moved_L3, hP.r.1, if_neg hne, if_pos i24, tx_nI (show i < 2 ^ 31 by omega), show pcl β + 12 + (9 + 4 * i) = pcl β + 21 + 4 * i by omega]
    simp only [bd, hk2, show kw + 5 < 15 by omega, if_true, i24, nI_1, cov_eq (show s < 12 by omega) (show t < 12 by omega) (show c < 4 by omega), Option.bind_some]
    by_cases h4 : kw = 4
    · subst h4
      rw [if_pos rfl]
      simp
    · rw [if_neg (by omega)]
      simp [h4]
  · rw [m_moved_L13, hB.2.1, show (5 : Int32) * nI β + 4 = 5 * nI β + nI 4 from rfl, if_pos b5.1, b5.2, hP.r.2, show (24 : Int32) * nI β = nI (24 * β) from nI_mul 24 β, nI_add, if_neg hne2, if_pos i48, tx_nI (show 24 * β + i < 2 ^ 31 by omega), hk3, ← hR.cls]
    simp only [bd, i48, if_true, nI_1, tg_m (show s < 12 by omega) (show 24 * β + i < 48 by omega) hR, Option.bind_some, show 24 * β + i + 1 = 24 * β + (i + 1) by omega]
    by_cases h4 : kw = 4
    · subst h4
      rw [if_pos (show nI 4 = 4 from rfl)]
      cases h1 : bt (gI S (pcl β + 21 + 4 * i) 9) c with
      | false =>
        rw [if_neg (fun z => by rw [bit_s1 _ (show c < 32 by omega), h1] at z; cases z)]
        simp
      | true =>
        rw [if_pos ((bit_s1 _ (show c < 32 by omega)).mpr h1)]
        cases h2 : bt (tgs S (pcl β + 21 + 4 * i) s) t with
        | false =>
          rw [if_neg (fun z => by rw [bit_s1 _ (show t < 32 by omega), h2] at z; cases z)]
          simp
        | true =>
          rw [if_pos ((bit_s1 _ (show t < 32 by omega)).mpr h2)]
          simp
    · rw [if_neg (show ¬ nI kw = 4 from fun z => h4 ((nI_eq (b := 4) (by omega) (by omega)).mp z))]
      simp [h4]
/-- both go to the same type -/
theorem mv_eq (hB : BkR S M β) (hP : PoR S M (pcl β) β nt nc nb nr) {x : Nat} (hs : s < nt) (ht : t < nt) (hc : c < nc) (hx : x < nt) : ∃ y, y < nt ∧ cPolicy_moved (pcl β) (nI s) (nI t) (nI c) (nI x) S = some (nI y) ∧ m_moved (nI s) (nI t) (nI c) (nI x) M = some (nI y) := by
  have hl := hP.lim
  have hβ := hB.1
  have b5 := bk5 (c := 4) hB.1 (by omega)
  have key : ∀ q i, i + q = nr → ((∀ j, i ≤ j → j < nr → mvb S M β s t c j = false) ∧ (∀ f, q < f → cPolicy_moved_L3 (pcl β) (nI s) (nI t) (nI c) (nI x) S f (nI i) = some (nI x)) ∧ ∀ g v, q < g → m_moved_L13 (nI s) (nI t) (nI c) M g v (nI (24 * β + i)) = some v) ∨
      ∃ y j, y < nt ∧ i ≤ j ∧ j < nr ∧ mvb S M β s t c j = true ∧ gI M 17 (24 * β + j) = nI y ∧ (∀ f, q < f → cPolicy_moved_L3 (pcl β) (nI s) (nI t) (nI c) (nI x) S f (nI i) = some (nI y)) ∧ ∀ g v, q < g → m_moved_L13 (nI s) (nI t) (nI c) M g v (nI (24 * β + i)) = some (nI y) := by
    intro q
    induction q with
    | zero =>
      intro i hi
      refine Or.inl ⟨fun j h1 h2 => by omega, fun f hf => ?_, fun g v hg => ?_⟩
      · obtain ⟨f, rfl⟩ := Nat.exists_eq_add_of_lt hf
        rw [Nat.zero_add, cPolicy_moved_L3, hP.r.1, if_pos (nI_le (by omega) (by omega))]
      · obtain ⟨g, rfl⟩ := Nat.exists_eq_add_of_lt hg
        rw [Nat.zero_add, m_moved_L13, hB.2.1, show (5 : Int32) * nI β + 4 = 5 * nI β + nI 4 from rfl, if_pos b5.1, b5.2, hP.r.2, show (24 : Int32) * nI β = nI (24 * β) from nI_mul 24 β, nI_add, if_pos (nI_le (by omega) (by omega))]
    | succ q ih =>
      intro i hi
      obtain ⟨o1, o2⟩ := mv_one (x := x) hB hP hs ht hc (show i < nr by omega)
      cases hmv : mvb S M β s t c i with
      | false =>
        rw [hmv] at o1 o2
        simp only [Bool.false_eq_true, if_false] at o1 o2
        rcases ih (i + 1) (by omega) with ⟨a1, a2, a3⟩ | ⟨y, j, a0, a1, a2, a3, a4, a5, a6⟩
        · refine Or.inl ⟨fun j h1 h2 => ?_, fun f hf => ?_, fun g v hg => ?_⟩
          · by_cases e : j = i
            · rw [e]; exact hmv
            · exact a1 j (by omega) h2
          · obtain ⟨f, rfl⟩ := Nat.exists_eq_add_of_lt hf
            rw [o1]; exact a2 _ (by omega)
          · obtain ⟨g, rfl⟩ := Nat.exists_eq_add_of_lt hg
            rw [o2]; exact a3 _ _ (by omega)
        · refine Or.inr ⟨y, j, a0, by omega, a2, a3, a4, fun f hf => ?_, fun g v hg => ?_⟩
          · obtain ⟨f, rfl⟩ := Nat.exists_eq_add_of_lt hf
            rw [o1]; exact a5 _ (by omega)
          · obtain ⟨g, rfl⟩ := Nat.exists_eq_add_of_lt hg
            rw [o2]; exact a6 _ _ (by omega)
      | true =>
        rw [hmv] at o1 o2
        simp only [if_true] at o1 o2
        have hm1 := hmv
        unfold mvb at hm1
        rw [Bool.and_eq_true, Bool.and_eq_true, decide_eq_true_eq] at hm1
        obtain ⟨y, hy, t1, t2⟩ := (hP.ru i (by omega)).to hm1.1
        refine Or.inr ⟨y, i, hy, Nat.le_refl _, by omega, hmv, t2, fun f hf => ?_, fun g v hg => ?_⟩
        · obtain ⟨f, rfl⟩ := Nat.exists_eq_add_of_lt hf
          rw [o1, t1]
        · obtain ⟨g, rfl⟩ := Nat.exists_eq_add_of_lt hg
          rw [o2, t2]
          rcases ih (i + 1) (by omega) with ⟨a1, a2, a3⟩ | ⟨y', j, a0, a1, a2, a3, a4, a5, a6⟩
          · exact a3 _ _ (by omega)
          · rw [a6 _ _ (by omega), ← a4, ← t2]
            have hm2 := a3
            unfold mvb at hm2
            rw [Bool.and_eq_true, Bool.and_eq_true, decide_eq_true_eq] at hm2
            exact congrArg some (hP.nd j i a2 (by omega) hm2.1 hm1.1 ⟨c, s, t, by omega, by omega, by omega, hm2.2.1, hm1.2.1, hm2.2.2, hm1.2.2⟩)
  have hm : ∀ v, m_moved (nI s) (nI t) (nI c) v M = m_moved_L13 (nI s) (nI t) (nI c) M 600 v (nI (24 * β + 0)) := fun v => by
    unfold m_moved
    rw [hB.2.1, show (24 : Int32) * nI β = nI (24 * β) from nI_mul 24 β]
    rfl
  rw [hm]
  rcases key nr 0 (by omega) with ⟨-, a2, a3⟩ | ⟨y, j, a0, -, -, -, -, a5, a6⟩
  · exact ⟨x, hx, a2 600 (by omega), a3 600 _ (by omega)⟩
  · exact ⟨y, a0, a5 600 (by omega), a6 600 _ (by omega)⟩
end MVE
