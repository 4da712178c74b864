theorem nI_sub {a b : Nat} (h : b ≤ a) : nI a - nI b = nI (a - b) := by
  have h3 : nI a = nI (a - b) + nI b := by rw [nI_add, Nat.sub_add_cancel h]
  rw [h3, Int32.add_sub_cancel]
theorem nI_div8 {n : Nat} (h : n < 2 ^ 31) : nI n / 8 = nI (n / 8) := by
  apply Int32.toInt_inj.mp
  rw [Int32.toInt_div_of_ne_right _ _ (by decide), nI_toInt h, nI_toInt (by omega)]
  show (n : Int).tdiv 8 = _
  rw [show (8 : Int) = ((8 : Nat) : Int) from rfl, Int.ofNat_tdiv]
theorem nI_m8 {n : Nat} (h : n < 2 ^ 31) : nI n - nI n / 8 * 8 = nI (n % 8) := by
  rw [nI_div8 h, show (8 : Int32) = nI 8 from rfl, nI_mul, nI_sub (by omega)]
  congr 1
  omega
theorem fmd8 {n : Nat} (h : n < 2 ^ 31) : jMath_floorMod2 (nI n) = some (nI (n % 8)) := by
  unfold jMath_floorMod2
  have h8 : (0 : Int32) ≤ nI n ^^^ 8 := by
    rw [show (8 : Int32) = nI 8 from rfl, nx_xor]
    exact nI_pos' (Nat.xor_lt_two_pow h (by decide))
  simp only [bd, if_pos h8, nI_m8 h]
section NOT
variable {S S' : CS} {M M' : MS} {o : Nat → Int64} {m β nt nc nb nr : Nat}
theorem S_14 (h : Rl S M m) (hm : m + 2 ≤ 1024) (a1 a2 a3 a4 : Int32) : Nx m (st_14 a1 a2 a3 a4 (S, M, o)) := by
  have hr : Rl S (pI M 0 0 0) (m + 2) := h.th (by omega) (by omega) 0
  obtain ⟨n, hn, e1, e2, e3⟩ := hr.lo
  have h5 := hr.m
  have hf : Nx m (some (S, pI M 0 0 0, o)) := wpo_some.mpr hr
  unfold st_14 cG_note cNoteLog_part m_note
  simp only [bd, e1, e2]
  by_cases c1 : a1 < 0
  · simp only [c1, if_true, Option.bind_some]
    exact hf
  obtain ⟨i, hi, rfl⟩ := nI_of c1
  by_cases c2 : i < 8
  · have c3 : ¬ (8 : Int32) ≤ nI i := nI_ge (b := 8) c2 (by omega)
    have c4 : ¬ (7 : Int32) < nI i := nI_nlt (b := i) (a := 7) (by omega) (by omega)
    by_cases c5 : i < n
    · have c6 : ¬ nI n ≤ nI i := nI_ge c5 (by omega)
      by_cases c7 : a2 < 0
      · simp only [c1, c3, c4, c6, c7, if_true, if_false, Option.bind_some]
        exact hf
      obtain ⟨j, hj, rfl⟩ := nI_of c7
      by_cases c8 : j < 5
      · have c9 : nI j < 5 := nI_lt (b := 5) c8 (by omega)
        have c10 : nI j ≤ 4 := nI_le (b := 4) (by omega) (by omega)
        have e4 : nI n - 1 - nI i = nI (n - 1 - i) := by
          rw [show (1 : Int32) = nI 1 from rfl, nI_sub (by omega), nI_sub (by omega)]
        have e5 : (5 : Int32) * nI ((n - 1 - i) % 8) + nI j = nI (5 * ((n - 1 - i) % 8) + j) := by
          rw [show (5 : Int32) = nI 5 from rfl, nI_mul, nI_add]
        have e6 : inbd (nI ((n - 1 - i) % 8)) 8 = true := inb_nI (by omega) (by omega)
        have e7 : inbd (nI j) 5 = true := inb_nI c8 (by omega)
        have e8 : inbd (nI (5 * ((n - 1 - i) % 8) + j)) 40 = true := inb_nI (by omega) (by omega)
        have e9 := e3 ((n - 1 - i) % 8) j (by omega) c8
        simp only [c1, c3, c4, c6, c7, c9, c10, if_true, if_false, e4, fmd8 (show n - 1 - i < 2 ^ 31 by omega), nI_m8 (show n - 1 - i < 2 ^ 31 by omega), Option.bind_some, e5, e6, e7, e8, tx_nI (show (n - 1 - i) % 8 < 2 ^ 31 by omega), tx_nI hj, tx_nI (show 5 * ((n - 1 - i) % 8) + j < 2 ^ 31 by omega)]
        rw [show 253 + (1 + (n - 1 - i) % 8) = 254 + (n - 1 - i) % 8 by omega, if_pos e9]
        exact hf
      · have c9 : ¬ nI j < 5 := nI_nlt (b := 5) (by omega) (by omega)
        have c10 : ¬ nI j ≤ 4 := nI_ge (a := 4) (by omega) (by omega)
        simp only [c1, c3, c4, c6, c7, c9, c10, if_true, if_false, Option.bind_some]
        exact hf
    · have c6 : nI n ≤ nI i := nI_le (by omega) (by omega)
      simp only [c1, c3, c4, c6, if_true, if_false, Option.bind_some]
      exact hf
  · have c3 : (8 : Int32) ≤ nI i := nI_le (a := 8) (by omega) hi
    have c4 : (7 : Int32) < nI i := nI_lt (a := 7) (by omega) hi
    simp only [c1, c3, c4, if_true, if_false, Option.bind_some]
    exact hf
theorem ca_cnt (v : Int32) {q : Int32} {n : Nat} (hn : n ≤ 6) (e1 : gI S 244 1 = nI n) (e2 : gI M 0 42 = nI n) (e3 : gI M 0 34 = q) (hs : ∀ i, i < n → (gI S (246 + i) 3 = q ↔ gI M 27 i = q)) :
    ∃ c : Int32, cVectorCache_sizeOf q S = some c ∧ m_cache_L9 v M 600 0 0 = (if v = 0 then some (M, gI M 0 44) else (if v = 1 then some (M, gI M 0 45) else (if v = 2 then some (M, nI n) else (if v = 3 then some (M, c) else (if v = 4 then some (M, gI M 0 46) else some (M, -1)))))) := by
  have key : ∀ r i, i + r = n → ∀ f g c, r < f → r < g → ∃ c', cVectorCache_sizeOf_L4 q S f c (nI i) = some c' ∧ m_cache_L9 v M g c (nI i) = (if v = 0 then some (M, gI M 0 44) else (if v = 1 then some (M, gI M 0 45) else (if v = 2 then some (M, nI n) else (if v = 3 then some (M, c') else (if v = 4 then some (M, gI M 0 46) else some (M, -1)))))) := by
    intro r
    induction r with
    | zero =>
      intro i hi f g c hf hg
      obtain ⟨f, rfl⟩ := Nat.exists_eq_add_of_lt hf
      obtain ⟨g, rfl⟩ := Nat.exists_eq_add_of_lt hg
      refine ⟨c, ?_, ?_⟩
      · rw [Nat.zero_add, cVectorCache_sizeOf_L4, e1, if_pos (nI_le (by omega) (by omega))]
      · rw [Nat.zero_add, m_cache_L9, e2, if_pos (nI_le (by omega) (by omega))]
    | succ r ih =>
      intro i hi f g c hf hg
      obtain ⟨f, rfl⟩ := Nat.exists_eq_add_of_lt hf
      obtain ⟨g, rfl⟩ := Nat.exists_eq_add_of_lt hg
      have hne : ¬ nI n ≤ nI i := nI_ge (by omega) (by omega)
      have hin : inbd (nI i) 6 = true := inb_nI (by omega) (by omega)
      have hq := hs i (by omega)
      have go := ih (i + 1) (by omega) (r + 1 + f) (r + 1 + g)
      rw [← nI_1] at go
      rw [cVectorCache_sizeOf_L4, e1, if_neg hne, if_pos hin, m_cache_L9, e2, if_neg hne, if_pos hin, tx_nI (show i < 2 ^ 31 by omega), e3]
      simp only [bd]
      rw [show 245 + (1 + i) = 246 + i by omega]
      by_cases e : gI S (246 + i) 3 = q
      · rw [if_pos e, if_pos (hq.mp e)]
        exact go (c + 1) (by omega) (by omega)
      · rw [if_neg e, if_neg (fun z => e (hq.mpr z)), Int32.add_zero]
        exact go c (by omega) (by omega)
  exact key n 0 (by omega) 600 600 0 (by omega) (by omega)
theorem S_13 (h : Rl S M m) (hm : m + 2 ≤ 1024) (a1 a2 a3 a4 : Int32) : Nx m (st_13 a1 a2 a3 a4 (S, M, o)) := by
  have hr : Rl S (pI M 0 0 0) (m + 2) := h.th (by omega) (by omega) 0
  have hf : Nx m (some (S, pI M 0 0 0, o)) := wpo_some.mpr hr
  obtain ⟨q, -, q1, q2⟩ := hr.sq
  obtain ⟨n, hn, n1, n2, n3, -⟩ := hr.ca.n
  obtain ⟨k, -, k1, k2, -⟩ := hr.lo
  obtain ⟨c, c1, c2⟩ := ca_cnt (S := S) (M := pI M 0 0 0) a1 (q := nI q) hn n1 n2 q2 (fun i hi => by
    obtain ⟨q', -, w1, w2⟩ := (n3 i hi).st
    rw [w1, w2])
  unfold st_13 cG_cache m_cache
  simp only [bd, c2, q1, c1, Option.bind_some]
  by_cases h0 : a1 = 0
  · simp only [h0, if_true, Option.bind_some, hr.ca.h]
    exact hf
  by_cases h1 : a1 = 1
  · simp only [h1, if_true, if_false, show ¬ (1 : Int32) = 0 by decide, Option.bind_some, hr.ca.ms]
    exact hf
  by_cases h2 : a1 = 2
  · simp only [h2, if_true, if_false, show ¬ (2 : Int32) = 0 by decide, show ¬ (2 : Int32) = 1 by decide, Option.bind_some, n1, n2]
    exact hf
  by_cases h3 : a1 = 3
  · simp only [h3, if_true, if_false, show ¬ (3 : Int32) = 0 by decide, show ¬ (3 : Int32) = 1 by decide, show ¬ (3 : Int32) = 2 by decide, Option.bind_some]
    exact hf
  by_cases h4 : a1 = 4
  · simp only [h4, if_true, if_false, show ¬ (4 : Int32) = 0 by decide, show ¬ (4 : Int32) = 1 by decide, show ¬ (4 : Int32) = 2 by decide, show ¬ (4 : Int32) = 3 by decide, Option.bind_some, k1, k2]
    exact hf
  simp only [h0, h1, h2, h3, h4, if_true, if_false, Option.bind_some]
  exact hf
end NOT

/-! bits of a mask, both ways -/
theorem b_1 : ∀ i, i < 32 → bt 1 i = decide (i = 0) := by decide +kernel
theorem and1_0 (y : Int32) : y &&& 1 = 0 ↔ bt y 0 = false := by
  constructor
  · intro h
    have h1 := congrArg (fun z => bt z 0) h
    simp only [b_and, b_0, b_1 0 (by omega)] at h1
    simpa using h1
  · intro h
    apply b_ext
    intro i hi
    rw [b_and, b_0, b_1 i hi]
    by_cases e : i = 0
    · subst e; simp [h]
    · simp [e]
theorem and1_1 (y : Int32) : y &&& 1 = 1 ↔ bt y 0 = true := by
  constructor
  · intro h
    have h1 := congrArg (fun z => bt z 0) h
    simp only [b_and, b_1 0 (by omega)] at h1
    simpa using h1
  · intro h
    apply b_ext
    intro i hi
    rw [b_and, b_1 i hi]
    by_cases e : i = 0
    · subst e; simp [h]
    · simp [e]
theorem bit_u (x : Int32) {j : Nat} (hj : j < 32) : ((iU x (nI j)) &&& 1) = 0 ↔ bt x j = false := by
  rw [and1_0]
  unfold iU
  rw [b_ushr j hj, Nat.add_zero]
theorem bit_s (x : Int32) {j : Nat} (hj : j < 32) : ((x >>> (nI j &&& 31)) &&& 1) = 0 ↔ bt x j = false := by
  rw [and1_0, b_sshr j hj x (by omega), Nat.add_zero, if_pos hj]
theorem bit_s1 (x : Int32) {j : Nat} (hj : j < 32) : ((x >>> (nI j &&& 31)) &&& 1) = 1 ↔ bt x j = true := by
  rw [and1_1, b_sshr j hj x (by omega), Nat.add_zero, if_pos hj]
theorem hb_eq (x : Int32) {j : Nat} (hj : j < 32) : cG_hasBit x (nI j) = some (bt x j) := by
  unfold cG_hasBit
  rw [if_neg (nI_pos (by omega)), if_neg (show ¬ (32 : Int32) ≤ nI j from nI_ge (b := 32) hj (by omega))]
  by_cases h : bt x j = false
  · rw [if_pos ((bit_u x hj).mpr h), h]
  · rw [if_neg (fun q => h ((bit_u x hj).mp q))]
    simp at h
    rw [h]
theorem sh_1 : ∀ s, s < 12 → (1 : Int32) <<< (nI s &&& 31) = nI (2 ^ s) := by decide +kernel
theorem nx_or (a b : Nat) : nI a ||| nI b = nI (a ||| b) := by
  apply Int32.toBitVec_inj.1
  show BitVec.ofNat 32 a ||| BitVec.ofNat 32 b = BitVec.ofNat 32 (a ||| b)
  apply BitVec.eq_of_getLsbD_eq
  intro i hi
  simp [hi]
section VEC
variable {S S' : CS} {M M' : MS} {o : Nat → Int64} {m β nt nc nb nr : Nat}
theorem tg_c {k s : Nat} (hs : s < 12) : cRule_targetsOf k (nI s) S = some (tgs S k s) := by
  unfold cRule_targetsOf tgs
  by_cases h : bt (gI S k 7) s = false
  · rw [if_pos ((bit_u _ (by omega)).mpr h), if_pos h]
  · rw [if_neg (fun q => h ((bit_u _ (by omega)).mp q)), if_neg h, sh_1 s hs]
    by_cases h2 : gB S k 6 = true
    · rw [if_pos h2, if_pos h2]
    · rw [if_neg h2, if_neg h2]
theorem tg_m {k r s : Nat} (hs : s < 12) (hr : r < 48) (hR : RuR S M k r nt nb) : m_targetsOf (nI r) (nI s) M = some (tgs S k s) := by
  unfold m_targetsOf tgs
  rw [if_pos (inb_nI hr (by omega)), tx_nI (show r < 2 ^ 31 by omega), ← hR.src, ← hR.self]
  by_cases h : bt (gI S k 7) s = false
  · rw [if_pos ((bit_s _ (by omega)).mpr h), if_pos h]
  · rw [if_neg (fun q => h ((bit_s _ (by omega)).mp q)), if_neg h, sh_1 s hs, if_pos (inb_nI hr (by omega))]
    by_cases h2 : gB S k 6 = true
    · rw [if_pos h2, if_pos h2]
    · rw [if_neg h2, if_neg h2, if_pos (inb_nI hr (by omega)), hR.tgt (by simpa using h2)]
theorem if_eq (hB : BkR S M β) (hP : PoR S M (pcl β) β nt nc nb nr) {k r : Nat} (hr : r < 48) (hR : RuR S M k r nt nb) : ∃ f : Bool, m_isInForce (nI r) M = some f ∧ ∀ s t c, cPolicy_permissionsInForce (pcl β) k s t c S = cPolicy_permissionsInForce_J29 k s t c f S := by
  have hl := hP.lim
  unfold m_isInForce
  rw [if_pos (inb_nI hr (by omega)), tx_nI (show r < 2 ^ 31 by omega)]
  rcases hR.cond with ⟨e1, e2⟩ | ⟨c, hc, e1, e2, e3⟩
  · refine ⟨true, ?_, fun s t c => ?_⟩
    · rw [e2, if_pos (by decide)]
    · unfold cPolicy_permissionsInForce
      rw [e1, if_pos rfl]
      rfl
  · have b := bk3 (c := c) hB.1 (by omega)
    have i3 : inbd (nI c) 3 = true := inb_nI (by omega) (by omega)
    have hne : ¬ nI c = -1 := fun q => nI_pos (n := c) (by omega) (by rw [q]; decide)
    refine ⟨gB M 10 (3 * β + c) == gB M 18 r, ?_, fun s t c' => ?_⟩
    · rw [e2, if_neg (nI_pos (by omega)), if_pos (inb_nI hr (by omega)), hB.2.1, if_pos b.1, b.2, if_pos (inb_nI hr (by omega))]
      cases gB M 10 (3 * β + c) <;> cases gB M 18 r <;> rfl
    · unfold cPolicy_permissionsInForce
      rw [e1, if_neg hne, if_pos i3, tx_nI (show c < 2 ^ 31 by omega), hP.bv c hc, e3]
      cases gB M 10 (3 * β + c) <;> cases gB M 18 r <;> rfl
theorem j29 {k s t c : Nat} (hs : s < 12) (ht : t < 12) (hc : c < 4) : cPolicy_permissionsInForce_J29 k (nI s) (nI t) (nI c) true S = some (if bt (gI S k 9) c = true ∧ bt (tgs S k s) t = true then gI S (k + 3) c else 0) := by
  unfold cPolicy_permissionsInForce_J29 cRule_covers
  rw [if_pos rfl, hb_eq _ (by omega), Option.bind_some]
  cases h1 : bt (gI S k 9) c with
  | false => simp
  | true =>
    rw [if_pos rfl, tg_c hs, Option.bind_some, hb_eq _ (by omega), Option.bind_some]
    cases h2 : bt (tgs S k s) t with
    | false => simp
    | true =>
      simp only [if_true, Option.bind_some, inb_nI hc (show 4 < 2 ^ 31 by omega), tx_nI (show c < 2 ^ 31 by omega), and_self]
theorem vec_eq (hB : BkR S M β) (hP : PoR S M (pcl β) β nt nc nb nr) {w s t c : Nat} (hw : w < 3) (hs : s < nt) (ht : t < nt) (hc : c < nc) : ∃ v, v < 256 ∧ cPolicy_permissionsBy (pcl β) (w + 5) (nI s) (nI t) (nI c) S = some (nI v) ∧ m_worked (nI w) (nI s) (nI t) (nI c) M = some (nI v) := by
  have hl := hP.lim
  have hβ := hB.1
  have b5 := bk5 (c := 4) hB.1 (by omega)
  have key : ∀ q i, i + q = nr → ∀ f g v, q < f → q < g → v < 256 → ∃ v', v' < 256 ∧ cPolicy_permissionsBy_L6 (pcl β) (w + 5) (nI s) (nI t) (nI c) S f (nI v) (nI i) = some (nI v') ∧ m_worked_L12 (nI w) (nI s) (nI t) (nI c) M g (nI v) (nI (24 * β + i)) = some (nI v') := by
    intro q
    induction q with
    | zero =>
      intro i hi f g v hf hg hv
      obtain ⟨f, rfl⟩ := Nat.exists_eq_add_of_lt hf
      obtain ⟨g, rfl⟩ := Nat.exists_eq_add_of_lt hg
      refine ⟨v, hv, ?_, ?_⟩
      · rw [Nat.zero_add, cPolicy_permissionsBy_L6, hP.r.1, if_pos (nI_le (by omega) (by omega))]
      · rw [Nat.zero_add, m_worked_L12, hB.2.1, show (5 : Int32) * nI β + 4 = 5 * nI β + nI 4 from rfl, if_pos b5.1, b5.2, hP.r.2, show (24 : Int32) * nI β = nI (24 * β) from nI_mul 24 β, nI_add, if_pos (nI_le (by omega) (by omega))]
    | succ q ih =>
      intro i hi f g v hf hg hv
      obtain ⟨f, rfl⟩ := Nat.exists_eq_add_of_lt hf
      obtain ⟨g, rfl⟩ := Nat.exists_eq_add_of_lt hg
      have go := ih (i + 1) (by omega) (q + 1 + f) (q + 1 + g)
      rw [show 24 * β + (i + 1) = 24 * β + i + 1 by omega, ← nI_1, ← nI_1] at go
      have hR := hP.ru i (by omega)
      obtain ⟨kw, hk1, hk2, hk3⟩ := hR.kind
      have hne : ¬ nI nr ≤ nI i := nI_ge (by omega) (by omega)
      have hne2 : ¬ nI (24 * β + nr) ≤ nI (24 * β + i) := nI_ge (by omega) (by omega)
      have i24 : inbd (nI i) 24 = true := inb_nI (by omega) (by omega)
      have i48 : inbd (nI (24 * β + i)) 48 = true := inb_nI (by omega) (by omega)
      rw [cPolicy_permissionsBy_L6, hP.r.1, if_neg hne, if_pos i24, tx_nI (show i < 2 ^ 31 by omega), show pcl β + 12 + (9 + 4 * i) = pcl β + 21 + 4 * i by omega, m_worked_L12, hB.2.1, show (5 : Int32) * nI β + 4 = 5 * nI β + nI 4 from rfl, if_pos b5.1, b5.2, hP.r.2, show (24 : Int32) * nI β = nI (24 * β) from nI_mul 24 β, nI_add, if_neg hne2, if_pos i48, tx_nI (show 24 * β + i < 2 ^ 31 by omega), hk3]
      simp only [bd, hk2, show kw + 5 < 15 by omega, if_true]
      by_cases hkw : kw = w
      · subst hkw
        obtain ⟨fo, f1, f2⟩ := if_eq hB hP (show 24 * β + i < 48 by omega) hR
        rw [if_pos rfl, if_pos i24, f2, if_pos rfl, f1, Option.bind_some]
        cases fo with
        | false =>
          simp only [cPolicy_permissionsInForce_J29, Bool.false_eq_true, if_false, Option.bind_some, Int32.or_zero]
          exact go v (by omega) (by omega) hv
        | true =>
          rw [j29 (by omega) (by omega) (by omega), if_pos rfl, tg_m (by omega) (show 24 * β + i < 48 by omega) hR, Option.bind_some, Option.bind_some]
          obtain ⟨pv, p0, p1, p2, p3⟩ := hR.perm c (by omega)
          have i192 : inbd (4 * nI (24 * β + i) + nI c) 192 = true ∧ txN (4 * nI (24 * β + i) + nI c) = 4 * (24 * β + i) + c := by
            have e : (4 : Int32) * nI (24 * β + i) + nI c = nI (4 * (24 * β + i) + c) := by rw [show (4 : Int32) = nI 4 from rfl, nI_mul, nI_add]
            rw [e]
            exact ⟨inb_nI (by omega) (by omega), tx_nI (by omega)⟩
          cases h2 : bt (tgs S (pcl β + 21 + 4 * i) s) t with
          | false =>
            rw [if_neg (by simp), if_neg (fun z => by rw [(bit_s1 _ (show t < 32 by omega))] at z; rw [h2] at z; cases z), Int32.or_zero]
            exact go v (by omega) (by omega) hv
          | true =>
            rw [if_pos ((bit_s1 _ (show t < 32 by omega)).mpr h2), if_pos i192.1, i192.2, p2]
            cases h1 : bt (gI S (pcl β + 21 + 4 * i) 9) c with
            | false =>
              rw [if_neg (by simp), p3 h1, nI_0, Int32.or_zero]
              exact go v (by omega) (by omega) hv
            | true =>
              rw [if_pos ⟨rfl, rfl⟩, p1, nx_or]
              exact go (v ||| pv) (by omega) (by omega) (Nat.or_lt_two_pow (n := 8) hv p0)
      · rw [if_neg (show ¬ kw + 5 = w + 5 by omega), if_neg (fun z => hkw ((nI_eq (by omega) (by omega)).mp z))]
        exact go v (by omega) (by omega) hv
  obtain ⟨v', h0, h1, h2⟩ := key nr 0 (by omega) 600 600 0 (by omega) (by omega) (by omega)
  refine ⟨v', h0, h1, ?_⟩
  unfold m_worked
  rw [hB.2.1, show (24 : Int32) * nI β = nI (24 * β) from nI_mul 24 β]
  exact h2
theorem kn_eq (hB : BkR S M β) (hP : PoR S M (pcl β) β nt nc nb nr) (s t c : Int32) : cG_areKnown s t c S = some (isNum nt s && isNum nt t && isNum nc c) := by
  unfold cG_areKnown
  simp only [bd, hB.2.2.1, pcl_7, if_true, hn_eq hP.t.1, hn_eq hP.c.1, Option.bind_some]
  cases isNum nt s <;> cases isNum nt t <;> cases isNum nc c <;> rfl
end VEC
