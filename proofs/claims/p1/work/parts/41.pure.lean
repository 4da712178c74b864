theorem gI_pI (S : CS) (k j : Nat) (v : Int32) (a c : Nat) : gI (pI S k j v) a c = if a = k ∧ c = j then v else gI S a c := by
  unfold gI pI va_up
  by_cases h : a = k
  · subst h
    by_cases h2 : c = j <;> simp [h2]
  · simp [h]
theorem gL_pL (S : CS) (k j : Nat) (v : Int64) (a c : Nat) : gL (pL S k j v) a c = if a = k ∧ c = j then v else gL S a c := by
  unfold gL pL va_up
  by_cases h : a = k
  · subst h
    by_cases h2 : c = j <;> simp [h2]
  · simp [h]
theorem gR_pR (S : CS) (k j : Nat) (v : Nat) (a c : Nat) : gR (pR S k j v) a c = if a = k ∧ c = j then v else gR S a c := by
  unfold gR pR va_up
  by_cases h : a = k
  · subst h
    by_cases h2 : c = j <;> simp [h2]
  · simp [h]
theorem gB_pB (S : CS) (k j : Nat) (v : Bool) (a c : Nat) : gB (pB S k j v) a c = if a = k ∧ c = j then v else gB S a c := by
  unfold gB pB va_up
  by_cases h : a = k
  · subst h
    by_cases h2 : c = j <;> simp [h2]
  · simp [h]
theorem gI_pL (S : CS) (k j : Nat) (v : Int64) (a c : Nat) : gI (pL S k j v) a c = gI S a c := rfl
theorem gI_pR (S : CS) (k j : Nat) (v : Nat) (a c : Nat) : gI (pR S k j v) a c = gI S a c := rfl
theorem gI_pB (S : CS) (k j : Nat) (v : Bool) (a c : Nat) : gI (pB S k j v) a c = gI S a c := rfl
theorem gL_pI (S : CS) (k j : Nat) (v : Int32) (a c : Nat) : gL (pI S k j v) a c = gL S a c := rfl
theorem gL_pR (S : CS) (k j : Nat) (v : Nat) (a c : Nat) : gL (pR S k j v) a c = gL S a c := rfl
theorem gL_pB (S : CS) (k j : Nat) (v : Bool) (a c : Nat) : gL (pB S k j v) a c = gL S a c := rfl
theorem gR_pI (S : CS) (k j : Nat) (v : Int32) (a c : Nat) : gR (pI S k j v) a c = gR S a c := rfl
theorem gR_pL (S : CS) (k j : Nat) (v : Int64) (a c : Nat) : gR (pL S k j v) a c = gR S a c := rfl
theorem gR_pB (S : CS) (k j : Nat) (v : Bool) (a c : Nat) : gR (pB S k j v) a c = gR S a c := rfl
theorem gB_pI (S : CS) (k j : Nat) (v : Int32) (a c : Nat) : gB (pI S k j v) a c = gB S a c := rfl
theorem gB_pL (S : CS) (k j : Nat) (v : Int64) (a c : Nat) : gB (pL S k j v) a c = gB S a c := rfl
theorem gB_pR (S : CS) (k j : Nat) (v : Nat) (a c : Nat) : gB (pR S k j v) a c = gB S a c := rfl

/-! ===== the pure side: what an Option-valued program comes to ===== -/
def wpo {α : Type} (x : Option α) (Q : α → Prop) : Prop := ∃ a, x = some a ∧ Q a
theorem wpo_some {α : Type} {a : α} {Q : α → Prop} : wpo (some a) Q ↔ Q a := ⟨fun ⟨_, h, q⟩ => by cases h; exact q, fun h => ⟨a, rfl, h⟩⟩
theorem wpo_bind {α β : Type} {x : Option α} {f : α → Option β} {Q : β → Prop} : wpo (x.bind f) Q ↔ wpo x (fun a => wpo (f a) Q) := by
  constructor
  · rintro ⟨r, h, q⟩
    obtain ⟨a, h1, h2⟩ := Option.bind_eq_some_iff.mp h
    exact ⟨a, h1, r, h2, q⟩
  · rintro ⟨a, h1, r, h2, q⟩
    exact ⟨r, Option.bind_eq_some_iff.mpr ⟨a, h1, h2⟩, q⟩
theorem wpo_bd {α β : Type} {x : α} {f : α → Option β} {Q : β → Prop} : wpo (bd x f) Q ↔ wpo (f x) Q := Iff.rfl
theorem wpo_none {α : Type} {Q : α → Prop} : wpo (none : Option α) Q ↔ False := ⟨fun ⟨_, h, _⟩ => (by cases h), False.elim⟩
theorem wpo_ite {α : Type} {c : Prop} [Decidable c] {x y : Option α} {Q : α → Prop} : wpo (if c then x else y) Q ↔ (if c then wpo x Q else wpo y Q) := by
  by_cases h : c
  · rw [if_pos h, if_pos h]
  · rw [if_neg h, if_neg h]
theorem wpo_mono {α : Type} {x : Option α} {P Q : α → Prop} (h : wpo x P) (hpq : ∀ a, P a → Q a) : wpo x Q := by
  obtain ⟨a, h1, h2⟩ := h
  exact ⟨a, h1, hpq a h2⟩
theorem wpo_of {α : Type} {x : Option α} {a : α} {Q : α → Prop} (h : x = some a) (q : Q a) : wpo x Q := ⟨a, h, q⟩
/-! names: seven bits a letter in the class, six in the reference; the last letter first -/
def q7 : List Nat → Nat
  | [] => 0
  | c :: t => q7 t * 128 + c
def c6 (c : Nat) : Nat := if 97 ≤ c then c - 96 else if c = 95 then 37 else c - 21
def q6 : List Nat → Nat
  | [] => 0
  | c :: t => q6 t * 64 + c6 c
def ptc (c : Nat) : Prop := (97 ≤ c ∧ c ≤ 122) ∨ (48 ≤ c ∧ c ≤ 57) ∨ c = 95
theorem c6_lt {c : Nat} (h : ptc c) : 0 < c6 c ∧ c6 c < 64 := by
  unfold c6 ptc at *
  split
  · omega
  · split <;> omega
theorem c6_inj {c d : Nat} (h : ptc c) (h2 : ptc d) (e : c6 c = c6 d) : c = d := by
  unfold c6 ptc at *
  split at e <;> split at e <;> (try split at e) <;> (try split at e) <;> omega
theorem q7_inj : ∀ (w v : List Nat), (∀ c ∈ w, ptc c) → (∀ c ∈ v, ptc c) → q7 w = q7 v → w = v
  | [], [], _, _, _ => rfl
  | [], d :: t, _, h2, e => by
    have := h2 d (List.mem_cons_self ..)
    unfold ptc at this
    simp only [q7] at e
    omega
  | c :: t, [], h1, _, e => by
    have := h1 c (List.mem_cons_self ..)
    unfold ptc at this
    simp only [q7] at e
    omega
  | c :: t, d :: u, h1, h2, e => by
    have a1 := h1 c (List.mem_cons_self ..)
    have a2 := h2 d (List.mem_cons_self ..)
    unfold ptc at a1 a2
    simp only [q7] at e
    have e1 : c = d := by omega
    have e2 : q7 t = q7 u := by omega
    rw [e1, q7_inj t u (fun x hx => h1 x (List.mem_cons_of_mem _ hx)) (fun x hx => h2 x (List.mem_cons_of_mem _ hx)) e2]
theorem q6_inj : ∀ (w v : List Nat), (∀ c ∈ w, ptc c) → (∀ c ∈ v, ptc c) → q6 w = q6 v → w = v
  | [], [], _, _, _ => rfl
  | [], d :: t, _, h2, e => by
    have := c6_lt (h2 d (List.mem_cons_self ..))
    simp only [q6] at e
    omega
  | c :: t, [], h1, _, e => by
    have := c6_lt (h1 c (List.mem_cons_self ..))
    simp only [q6] at e
    omega
  | c :: t, d :: u, h1, h2, e => by
    have a1 := c6_lt (h1 c (List.mem_cons_self ..))
    have a2 := c6_lt (h2 d (List.mem_cons_self ..))
    simp only [q6] at e
    have e1 : c6 c = c6 d := by omega
    have e2 : q6 t = q6 u := by omega
    rw [c6_inj (h1 c (List.mem_cons_self ..)) (h2 d (List.mem_cons_self ..)) e1, q6_inj t u (fun x hx => h1 x (List.mem_cons_of_mem _ hx)) (fun x hx => h2 x (List.mem_cons_of_mem _ hx)) e2]
theorem q7_lt : ∀ (w : List Nat), (∀ c ∈ w, ptc c) → q7 w < 128 ^ w.length
  | [], _ => by simp [q7]
  | c :: t, h => by
    have h1 := q7_lt t (fun x hx => h x (List.mem_cons_of_mem _ hx))
    have a1 := h c (List.mem_cons_self ..)
    unfold ptc at a1
    simp only [q7, List.length_cons, Nat.pow_succ]
    omega
theorem q6_lt : ∀ (w : List Nat), (∀ c ∈ w, ptc c) → q6 w < 64 ^ w.length
  | [], _ => by simp [q6]
  | c :: t, h => by
    have h1 := q6_lt t (fun x hx => h x (List.mem_cons_of_mem _ hx))
    have a1 := c6_lt (h c (List.mem_cons_self ..))
    simp only [q6, List.length_cons, Nat.pow_succ]
    omega
theorem q7_63 {w : List Nat} (h : ∀ c ∈ w, ptc c) (hl : w.length ≤ 9) : q7 w < 9223372036854775808 := by
  have h1 := q7_lt w h
  have h2 : 128 ^ w.length ≤ 128 ^ 9 := Nat.pow_le_pow_right (by decide) hl
  have h3 : 128 ^ 9 = 9223372036854775808 := by decide
  omega
theorem q6_54 {w : List Nat} (h : ∀ c ∈ w, ptc c) (hl : w.length ≤ 9) : q6 w < 18014398509481984 := by
  have h1 := q6_lt w h
  have h2 : 64 ^ w.length ≤ 64 ^ 9 := Nat.pow_le_pow_right (by decide) hl
  have h3 : 64 ^ 9 = 18014398509481984 := by decide
  omega
theorem lN_inj {a b : Nat} (ha : a < 2 ^ 64) (hb : b < 2 ^ 64) (h : lN a = lN b) : a = b := by
  have h1 := congrArg (fun x : Int64 => x.toBitVec.toNat) h
  simp only [wb_tn ha, wb_tn hb] at h1
  exact h1
/-- x in the class, y in the reference: one name -/
def NR (x y : Int64) : Prop := ∃ w : List Nat, w ≠ [] ∧ w.length ≤ 9 ∧ (∀ c ∈ w, ptc c) ∧ x = lN (q7 w) ∧ y = lN (q6 w)
def NR0 (x y : Int64) : Prop := (x = 0 ∧ y = 0) ∨ NR x y
theorem NR.ne {x y : Int64} (h : NR x y) : x ≠ 0 ∧ y ≠ 0 := by
  obtain ⟨w, h0, h1, h2, rfl, rfl⟩ := h
  cases w with
  | nil => exact absurd rfl h0
  | cons c t =>
    have a1 := h2 c (List.mem_cons_self ..)
    have a2 := c6_lt a1
    unfold ptc at a1
    have b1 := q7_63 h2 h1
    have b2 := q6_54 h2 h1
    constructor
    · intro e
      have := lN_inj (a := q7 (c :: t)) (b := 0) (by omega) (by omega) e
      simp only [q7] at this
      omega
    · intro e
      have := lN_inj (a := q6 (c :: t)) (b := 0) (by omega) (by omega) e
      simp only [q6] at this
      omega
theorem NR.eq {x y x' y' : Int64} (h : NR x y) (h' : NR x' y') : x = x' ↔ y = y' := by
  obtain ⟨w, -, h1, h2, rfl, rfl⟩ := h
  obtain ⟨v, -, g1, g2, rfl, rfl⟩ := h'
  have b1 := q7_63 h2 h1
  have b2 := q6_54 h2 h1
  have b3 := q7_63 g2 g1
  have b4 := q6_54 g2 g1
  constructor
  · intro e
    rw [q7_inj w v h2 g2 (lN_inj (by omega) (by omega) e)]
  · intro e
    rw [q6_inj w v h2 g2 (lN_inj (by omega) (by omega) e)]
theorem NR0.eq {x y x' y' : Int64} (h : NR0 x y) (h' : NR0 x' y') : x = x' ↔ y = y' := by
  rcases h with ⟨rfl, rfl⟩ | h
  · rcases h' with ⟨rfl, rfl⟩ | h'
    · exact ⟨fun _ => rfl, fun _ => rfl⟩
    · exact ⟨fun e => absurd e.symm h'.ne.1, fun e => absurd e.symm h'.ne.2⟩
  · rcases h' with ⟨rfl, rfl⟩ | h'
    · exact ⟨fun e => absurd e h.ne.1, fun e => absurd e h.ne.2⟩
    · exact h.eq h'
theorem NR0.z {x y : Int64} (h : NR0 x y) : x = 0 ↔ y = 0 := h.eq (Or.inl ⟨rfl, rfl⟩)
/-! small numbers -/
theorem inb_nI {j N : Nat} (h : j < N) (hN : N < 2 ^ 31) : inbd (nI j) N = true := by
  unfold inbd
  rw [Bool.and_eq_true, Bool.not_eq_true', decide_eq_false_iff_not, decide_eq_true_eq]
  exact ⟨nI_pos (by omega), by show txN (nI j) < N; rw [show txN (nI j) = j from nI_clamp (by omega)]; exact h⟩
theorem tx_nI {j : Nat} (h : j < 2 ^ 31) : txN (nI j) = j := nI_clamp h
theorem gI_same (S : CS) (k j : Nat) (v : Int32) : gI (pI S k j v) k j = v := by rw [gI_pI, if_pos ⟨rfl, rfl⟩]
theorem gI_other (S : CS) {k j a c : Nat} (v : Int32) (h : ¬ (a = k ∧ c = j)) : gI (pI S k j v) a c = gI S a c := by rw [gI_pI, if_neg h]
theorem gL_same (S : CS) (k j : Nat) (v : Int64) : gL (pL S k j v) k j = v := by rw [gL_pL, if_pos ⟨rfl, rfl⟩]
theorem gL_other (S : CS) {k j a c : Nat} (v : Int64) (h : ¬ (a = k ∧ c = j)) : gL (pL S k j v) a c = gL S a c := by rw [gL_pL, if_neg h]
theorem gB_same (S : CS) (k j : Nat) (v : Bool) : gB (pB S k j v) k j = v := by rw [gB_pB, if_pos ⟨rfl, rfl⟩]
theorem gB_other (S : CS) {k j a c : Nat} (v : Bool) (h : ¬ (a = k ∧ c = j)) : gB (pB S k j v) a c = gB S a c := by rw [gB_pB, if_neg h]
/-- both find a name at the same place -/
theorem num_eq {S : CS} {M : MS} {k a o n : Nat} {x y : Int64} (hn : gI S k 1 = nI n) (hn1 : n ≤ ln (k + 1)) (hl : ln (k + 1) ≤ 12) (hm : o + n ≤ lnM a) (hlm : lnM a ≤ 500) (h : ∀ j, j < n → (gL S (k + 1) j = x ↔ gL M a (o + j) = y)) :
    ∃ r : Int32, cNames_numberOf k x S = some r ∧ m_find a (nI o) (nI n) y M = some r ∧ (r = -1 ∨ ∃ j, j < n ∧ r = nI j) := by
  have key : ∀ q i, i + q = n → ∀ f g, q < f → q < g → ∃ r : Int32, cNames_numberOf_L2 k x S f (nI i) = some r ∧ m_find_L3 a (nI o) (nI n) y M g (nI i) = some r ∧ (r = -1 ∨ ∃ j, j < n ∧ r = nI j) := by
    intro q
    induction q with
    | zero =>
      intro i hi f g hf hg
      obtain ⟨f, rfl⟩ := Nat.exists_eq_add_of_lt hf
      obtain ⟨g, rfl⟩ := Nat.exists_eq_add_of_lt hg
      refine ⟨-1, ?_, ?_, Or.inl rfl⟩
      · rw [Nat.zero_add, cNames_numberOf_L2, hn, if_pos (nI_le (by omega) (by omega))]
      · rw [Nat.zero_add, m_find_L3, if_pos (nI_le (by omega) (by omega))]
    | succ q ih =>
      intro i hi f g hf hg
      obtain ⟨f, rfl⟩ := Nat.exists_eq_add_of_lt hf
      obtain ⟨g, rfl⟩ := Nat.exists_eq_add_of_lt hg
      have hne : ¬ nI n ≤ nI i := nI_ge (by omega) (by omega)
      have hi1 : inbd (nI i) (ln (k + 1)) = true := inb_nI (by omega) (by omega)
      have hi2 : inbd (nI o + nI i) (lnM a) = true := by rw [nI_add]; exact inb_nI (by omega) (by omega)
      have ht : txN (nI o + nI i) = o + i := by rw [nI_add]; exact tx_nI (by omega)
      have hq := h i (by omega)
      rw [cNames_numberOf_L2, hn, if_neg hne, if_pos hi1, m_find_L3, if_neg hne, if_pos hi2, tx_nI (show i < 2 ^ 31 by omega), ht]
      by_cases e : gL S (k + 1) i = x
      · rw [if_pos e, if_pos (hq.mp e)]
        exact ⟨nI i, rfl, rfl, Or.inr ⟨i, by omega, rfl⟩⟩
      · rw [if_neg e, if_neg (fun z => e (hq.mpr z))]
        show ∃ r : Int32, cNames_numberOf_L2 k x S (q + 1 + f) (nI i + 1) = some r ∧ m_find_L3 a (nI o) (nI n) y M (q + 1 + g) (nI i + 1) = some r ∧ _
        rw [nI_1]
        exact ih (i + 1) (by omega) _ _ (by omega) (by omega)
  exact key n 0 (by omega) 600 600 (by omega) (by omega)
/-! a byte of a word, both ways -/
theorem s64u : ∀ n, n < 64 → (((nI n).toInt64.toUInt64 &&& Int64.toUInt64 63).toBitVec % 64).toNat = n := by decide +kernel
theorem s64l : ∀ n, n < 64 → (((nI n).toInt64 &&& 63).toBitVec.smod 64).toNat = n := by decide +kernel
theorem l255 : ∀ j, j < 64 → (255 : Int64).toBitVec.getLsbD j = decide (j < 8) := by decide +kernel
theorem lb_u (w : Int64) {n : Nat} (hn : n < 64) (j : Nat) : (lSu w (nI n)).toBitVec.getLsbD j = w.toBitVec.getLsbD (n + j) := by
  show (w.toUInt64 >>> ((nI n).toInt64.toUInt64 &&& Int64.toUInt64 63)).toBitVec.getLsbD j = w.toUInt64.toBitVec.getLsbD (n + j)
  rw [UInt64.toBitVec_shiftRight]
  show (w.toUInt64.toBitVec >>> (((nI n).toInt64.toUInt64 &&& Int64.toUInt64 63).toBitVec % 64).toNat).getLsbD j = _
  rw [s64u n hn, BitVec.getLsbD_ushiftRight]
theorem lb_s (w : Int64) {n j : Nat} (hn : n < 64) (hj : n + j < 64) : (lSr w (nI n)).toBitVec.getLsbD j = w.toBitVec.getLsbD (n + j) := by
  unfold lSr
  rw [Int64.toBitVec_shiftRight]
  show (w.toBitVec.sshiftRight (((nI n).toInt64 &&& 63).toBitVec.smod 64).toNat).getLsbD j = _
  rw [s64l n hn, BitVec.getLsbD_sshiftRight]
  simp [hj, show j < 64 by omega]
theorem n32 (x : Int64) {j : Nat} (hj : j < 32) : bt x.toInt32 j = x.toBitVec.getLsbD j := by
  show (x.toBitVec.signExtend 32).getLsbD j = _
  rw [BitVec.getLsbD_signExtend]
  simp [hj, show j < 64 by omega]
def byn (w : Int64) (i : Nat) : Int32 := ((lSu w (8 * nI i)).toInt32) &&& 255
theorem by_8 {i : Nat} (hi : i < 8) : (8 : Int32) * nI i = nI (8 * i) := by
  have : i = 0 ∨ i = 1 ∨ i = 2 ∨ i = 3 ∨ i = 4 ∨ i = 5 ∨ i = 6 ∨ i = 7 := by omega
  rcases this with rfl | rfl | rfl | rfl | rfl | rfl | rfl | rfl <;> decide
theorem by_eq (w : Int64) {i : Nat} (hi : i < 8) : ((lSr w (8 * nI i)) &&& 255).toInt32 = byn w i := by
  unfold byn
  rw [by_8 hi]
  apply b_ext
  intro j hj
  rw [b_and, b_255, n32 _ hj, n32 _ hj, lb_u _ (by omega), Int64.toBitVec_and, BitVec.getLsbD_and, l255 j (by omega)]
  by_cases h : j < 8
  · rw [lb_s _ (by omega) (by omega)]
  · simp [h]
theorem nI_255 (n : Nat) : nI n &&& 255 = nI (n % 256) := by
  apply Int32.toBitVec_inj.mp
  rw [Int32.toBitVec_and]
  apply BitVec.eq_of_toNat_eq
  rw [BitVec.toNat_and]
  show (n % 2 ^ 32) &&& 255 = (n % 256) % 2 ^ 32
  rw [show 255 = 2 ^ 8 - 1 from rfl, Nat.and_two_pow_sub_one_eq_mod]
  omega
theorem by_lt (w : Int64) (i : Nat) : ∃ n, n < 256 ∧ byn w i = nI n := by
  obtain ⟨n, -, h⟩ := wb_of32 ((lSu w (8 * nI i)).toInt32)
  refine ⟨n % 256, Nat.mod_lt _ (by decide), ?_⟩
  unfold byn
  rw [h, nI_255]
theorem iC_nI {n : Nat} (h : n < 65536) : iC (nI n) = nI n := by
  unfold iC
  apply Int32.toBitVec_inj.mp
  apply BitVec.eq_of_toNat_eq
  show ((nI n).toUInt32 % 65536).toNat = n % 2 ^ 32
  rw [UInt32.toNat_mod]
  show (n % 2 ^ 32) % 65536 = n % 2 ^ 32
  omega

/-! what a step leaves alone -/
def eqC (P : Nat → Nat → Prop) (S T : CS) : Prop := ∀ k j, P k j → gI T k j = gI S k j ∧ gL T k j = gL S k j ∧ gR T k j = gR S k j ∧ gB T k j = gB S k j
theorem eqC.rf (P : Nat → Nat → Prop) (S : CS) : eqC P S S := fun _ _ _ => ⟨rfl, rfl, rfl, rfl⟩
theorem eqC.tr {P : Nat → Nat → Prop} {S T U : CS} (h1 : eqC P S T) (h2 : eqC P T U) : eqC P S U := fun k j h => by
  obtain ⟨a1, a2, a3, a4⟩ := h1 k j h
  obtain ⟨b1, b2, b3, b4⟩ := h2 k j h
  exact ⟨b1.trans a1, b2.trans a2, b3.trans a3, b4.trans a4⟩
theorem eqC.mono {P Q : Nat → Nat → Prop} {S T : CS} (h : eqC Q S T) (hpq : ∀ k j, P k j → Q k j) : eqC P S T := fun k j hp => h k j (hpq k j hp)
theorem eqC_ne {P : Nat → Nat → Prop} {a c k j : Nat} (hp : ¬ P k j) (hq : P a c) : ¬ (a = k ∧ c = j) := fun e => hp (by rw [← e.1, ← e.2]; exact hq)
theorem eqC.I {P : Nat → Nat → Prop} {S T : CS} (h : eqC P S T) {k j : Nat} (v : Int32) (hp : ¬ P k j) : eqC P S (pI T k j v) := fun a c hq => by
  obtain ⟨a1, a2, a3, a4⟩ := h a c hq
  exact ⟨(gI_other T v (eqC_ne hp hq)).trans a1, a2, a3, a4⟩
theorem eqC.L {P : Nat → Nat → Prop} {S T : CS} (h : eqC P S T) {k j : Nat} (v : Int64) (hp : ¬ P k j) : eqC P S (pL T k j v) := fun a c hq => by
  obtain ⟨a1, a2, a3, a4⟩ := h a c hq
  exact ⟨a1, (gL_other T v (eqC_ne hp hq)).trans a2, a3, a4⟩
theorem eqC.R {P : Nat → Nat → Prop} {S T : CS} (h : eqC P S T) {k j : Nat} (v : Nat) (hp : ¬ P k j) : eqC P S (pR T k j v) := fun a c hq => by
  obtain ⟨a1, a2, a3, a4⟩ := h a c hq
  exact ⟨a1, a2, (by rw [gR_pR, if_neg (eqC_ne hp hq)]; exact a3), a4⟩
theorem eqC.B {P : Nat → Nat → Prop} {S T : CS} (h : eqC P S T) {k j : Nat} (v : Bool) (hp : ¬ P k j) : eqC P S (pB T k j v) := fun a c hq => by
  obtain ⟨a1, a2, a3, a4⟩ := h a c hq
  exact ⟨a1, a2, a3, (gB_other T v (eqC_ne hp hq)).trans a4⟩
/-! the text -/
def TxR (S : CS) (M : MS) : Prop := ∃ n, n ≤ 480 ∧ gI S 0 1 = nI n ∧ gI M 0 2 = nI n ∧ ∀ j, j < n → gI M 1 j = gI S 1 j ∧ ∃ c, 32 ≤ c ∧ c ≤ 126 ∧ gI S 1 j = nI c
theorem ty_l1 (w : Int64) {k : Nat} (hk : k ≤ 8) (S : CS) (M : MS) : ∀ q i, i + q = k → ∀ f g, q < f → q < g → (cG_type_L28 w (nI k) S f (nI i) = some (S, false) ∧ m_type_L33 w (nI k) M g (nI i) = some (M, false)) ∨
    ((∀ j, i ≤ j → j < k → ∃ c, 32 ≤ c ∧ c ≤ 126 ∧ byn w j = nI c) ∧ cG_type_L28 w (nI k) S f (nI i) = cG_type_L69 w 600 (nI k - 1) S ∧ m_type_L33 w (nI k) M g (nI i) = m_type_L80 w 600 (nI k - 1) M) := by
  intro q
  induction q with
  | zero =>
    intro i hi f g hf hg
    obtain ⟨f, rfl⟩ := Nat.exists_eq_add_of_lt hf
    obtain ⟨g, rfl⟩ := Nat.exists_eq_add_of_lt hg
    refine Or.inr ⟨fun j h1 h2 => by omega, ?_, ?_⟩
    · rw [Nat.zero_add, cG_type_L28, if_pos (nI_le (by omega) (by omega))]
      rfl
    · rw [Nat.zero_add, m_type_L33, if_pos (nI_le (by omega) (by omega))]
      rfl
  | succ q ih =>
    intro i hi f g hf hg
    obtain ⟨f, rfl⟩ := Nat.exists_eq_add_of_lt hf
    obtain ⟨g, rfl⟩ := Nat.exists_eq_add_of_lt hg
    have hne : ¬ nI k ≤ nI i := nI_ge (by omega) (by omega)
    obtain ⟨c, hc, hb⟩ := by_lt w i
    have e1 : cG_byteOf w (nI i) = some (nI c) := congrArg some hb
    have e2 : ((lSr w (8 * nI i)) &&& 255).toInt32 = nI c := (by_eq w (by omega)).trans hb
    rw [cG_type_L28, if_neg hne, e1, m_type_L33, if_neg hne, e2]
    show (((if nI c < 32 then some (S, false) else if nI c ≤ 126 then cG_type_L28 w (nI k) S (q + 1 + f) (nI i + 1) else some (S, false)) = some (S, false)) ∧ (if nI c < 32 then some (M, false) else if nI c ≤ 126 then m_type_L33 w (nI k) M (q + 1 + g) (nI i + 1) else some (M, false)) = some (M, false)) ∨ (_ ∧ (if nI c < 32 then some (S, false) else if nI c ≤ 126 then cG_type_L28 w (nI k) S (q + 1 + f) (nI i + 1) else some (S, false)) = _ ∧ (if nI c < 32 then some (M, false) else if nI c ≤ 126 then m_type_L33 w (nI k) M (q + 1 + g) (nI i + 1) else some (M, false)) = _)
    by_cases h1 : nI c < 32
    · rw [if_pos h1, if_pos h1]
      exact Or.inl ⟨rfl, rfl⟩
    · rw [if_neg h1, if_neg h1]
      by_cases h2 : nI c ≤ 126
      · rw [if_pos h2, if_pos h2, nI_1]
        rcases ih (i + 1) (by omega) (q + 1 + f) (q + 1 + g) (by omega) (by omega) with h | ⟨h3, h4, h5⟩
        · exact Or.inl h
        · refine Or.inr ⟨fun j g1 g2 => ?_, h4, h5⟩
          by_cases hj : j = i
          · subst hj
            exact ⟨c, by have := mt (nI_ltI (a := c) (b := 32) (by omega) (by omega)).mpr h1; omega, (nI_leI (b := 126) (by omega) (by omega)).mp h2, hb⟩
          · exact h3 j (by omega) g2
      · rw [if_neg h2, if_neg h2]
        exact Or.inl ⟨rfl, rfl⟩
def tyC (k j : Nat) : Prop := ¬ (k = 1 ∨ (k = 0 ∧ j = 1))
def tyM (k j : Nat) : Prop := ¬ (k = 1 ∨ (k = 0 ∧ (j = 0 ∨ j = 2)))
theorem ty_l2 (w : Int64) : ∀ q, q ≤ 8 → ∀ f g, q < f → q < g → ∀ (S : CS) (M : MS) n, n + q ≤ 480 → gI S 0 1 = nI n → gI M 0 2 = nI n → (∀ j, j < n → gI M 1 j = gI S 1 j ∧ ∃ c, 32 ≤ c ∧ c ≤ 126 ∧ gI S 1 j = nI c) → (∀ j, j < q → ∃ c, 32 ≤ c ∧ c ≤ 126 ∧ byn w j = nI c) →
    ∃ (S' : CS) (M' : MS), cG_type_L69 w f (nI q - 1) S = some (S', true) ∧ m_type_L80 w g (nI q - 1) M = some (M', true) ∧ TxR S' M' ∧ eqC tyC S S' ∧ eqC tyM M M' := by
  intro q
  induction q with
  | zero =>
    intro _ f g hf hg S M n hn e1 e2 hx _
    obtain ⟨f, rfl⟩ := Nat.exists_eq_add_of_lt hf
    obtain ⟨g, rfl⟩ := Nat.exists_eq_add_of_lt hg
    have hlt : nI 0 - 1 < 0 := by decide
    refine ⟨S, M, ?_, ?_, ⟨n, by omega, e1, e2, hx⟩, eqC.rf _ _, eqC.rf _ _⟩
    · rw [Nat.zero_add, cG_type_L69, if_pos hlt]
    · rw [Nat.zero_add, m_type_L80, if_pos hlt]
  | succ q ih =>
    intro hq f g hf hg S M n hn e1 e2 hx hb
    obtain ⟨f, rfl⟩ := Nat.exists_eq_add_of_lt hf
    obtain ⟨g, rfl⟩ := Nat.exists_eq_add_of_lt hg
    obtain ⟨c, c1, c2, hc⟩ := hb q (by omega)
    have b1 : cG_byteOf w (nI q) = some (nI c) := congrArg some hc
    have b2 : ((lSr w (8 * nI q)) &&& 255).toInt32 = nI c := (by_eq w (by omega)).trans hc
    have hp : ¬ nI q < 0 := nI_pos (by omega)
    have hin : inbd (nI n) 480 = true := inb_nI (by omega) (by omega)
    have hdec : nI q + (-1) = nI q - 1 := by
      rw [Int32.sub_eq_add_neg]
    rw [nI_pred, cG_type_L69, if_neg hp, b1, Option.bind_some, e1, if_pos hin, m_type_L80, if_neg hp, b2, e2, if_pos hin]
    have hS1 : gI (pI (pI S 1 n (nI c)) 0 1 (nI (n + 1))) 0 1 = nI (n + 1) := gI_same _ _ _ _
    have hM1 : gI (pI (pI M 1 n (nI c)) 0 2 (nI (n + 1))) 0 2 = nI (n + 1) := gI_same _ _ _ _
    have hgo := ih (by omega) (q + 1 + f) (q + 1 + g) (by omega) (by omega) (pI (pI S 1 n (nI c)) 0 1 (nI (n + 1))) (pI (pI M 1 n (nI c)) 0 2 (nI (n + 1))) (n + 1) (by omega) hS1 hM1 (fun j hj => by
      rw [gI_other (pI M 1 n (nI c)) _ (show ¬ (1 = 0 ∧ j = 2) by omega), gI_other (pI S 1 n (nI c)) _ (show ¬ (1 = 0 ∧ j = 1) by omega), gI_pI, gI_pI]
      by_cases h : j = n
      · subst h
        rw [if_pos ⟨rfl, rfl⟩, if_pos ⟨rfl, rfl⟩]
        exact ⟨rfl, c, c1, c2, rfl⟩
      · rw [if_neg (by omega), if_neg (by omega)]
        exact hx j (by omega)) (fun j hj => hb j (by omega))
    obtain ⟨S', M', g1, g2, g3, g4, g5⟩ := hgo
    refine ⟨S', M', ?_, ?_, g3, eqC.tr ((eqC.I (eqC.I (eqC.rf _ _) _ (by simp [tyC])) _ (by simp [tyC]))) g4, eqC.tr ((eqC.I (eqC.I (eqC.rf _ _) _ (by simp [tyM])) _ (by simp [tyM]))) g5⟩
    · show cG_type_L69 w (q + 1 + f) (nI q + (-1)) (pI (pI S 1 (txN (nI n)) (iC (iC (nI c)))) 0 1 (gI (pI S 1 (txN (nI n)) (iC (iC (nI c)))) 0 1 + 1)) = _
      rw [iC_nI (show c < 65536 by omega), iC_nI (show c < 65536 by omega), tx_nI (show n < 2 ^ 31 by omega), gI_other _ _ (by omega), e1, nI_1, hdec]
      exact g1
    · show m_type_L80 w (q + 1 + g) (nI q + (-1)) (pI (pI M 1 (txN (nI n)) (nI c)) 0 2 (gI (pI M 1 (txN (nI n)) (nI c)) 0 2 + 1)) = _
      rw [tx_nI (show n < 2 ^ 31 by omega), gI_other _ _ (by omega), e2, nI_1, hdec]
      exact g2
theorem ty_sim {S : CS} {M : MS} (h : TxR S M) (w : Int64) (x : Int32) : ∃ (S' : CS) (M' : MS) (r : Bool), cG_type w x S = some (S', r) ∧ m_type w x M = some (M', r) ∧ TxR S' M' ∧ eqC tyC S S' ∧ eqC tyM M M' := by
  obtain ⟨n, hn, e1, e2, hx⟩ := h
  have f0 : eqC tyM M (pI M 0 0 0) := (eqC.rf _ _).I _ (by simp [tyM])
  have e2' : gI (pI M 0 0 0) 0 2 = nI n := (gI_other _ _ (by omega)).trans e2
  have hx' : ∀ j, j < n → gI (pI M 0 0 0) 1 j = gI S 1 j ∧ ∃ c, 32 ≤ c ∧ c ≤ 126 ∧ gI S 1 j = nI c := fun j hj => by
    rw [gI_other _ _ (by omega)]
    exact hx j hj
  have hR : TxR S (pI M 0 0 0) := ⟨n, hn, e1, e2', hx'⟩
  unfold cG_type m_type
  show ∃ (S' : CS) (M' : MS) (r : Bool), _ ∧ (if x < 1 then some (pI M 0 0 0, false) else if 8 < x then some (pI M 0 0 0, false) else if gI (pI M 0 0 0) 0 2 + x ≤ 480 then m_type_L33 w x (pI M 0 0 0) 600 0 else some (pI M 0 0 0, false)) = some (M', r) ∧ _
  by_cases h1 : x < 1
  · rw [if_pos h1, if_pos h1]
    exact ⟨_, _, _, rfl, rfl, hR, eqC.rf _ _, f0⟩
  · rw [if_neg h1, if_neg h1]
    by_cases h2 : 8 < x
    · rw [if_pos h2, if_pos h2]
      exact ⟨_, _, _, rfl, rfl, hR, eqC.rf _ _, f0⟩
    · rw [if_neg h2, if_neg h2]
      obtain ⟨k, hk8, hk1, rfl⟩ : ∃ k, k ≤ 8 ∧ 1 ≤ k ∧ x = nI k := by
        obtain ⟨k, hk, rfl⟩ := nI_of (x := x) (fun q => h1 (Int32.lt_trans q (by decide)))
        have a1 := mt (nI_ltI (a := k) (b := 1) hk (by omega)).mpr h1
        have a2 := mt (nI_ltI (a := 8) (b := k) (by omega) hk).mpr h2
        exact ⟨k, by omega, by omega, rfl⟩
      have hs : (480 : Int32) - nI n = nI (480 - n) := by
        have h3 : (480 : Int32) = nI (480 - n) + nI n := by
          rw [nI_add, Nat.sub_add_cancel hn]
          rfl
        rw [h3, Int32.add_sub_cancel]
      rw [e1, e2', hs, nI_add]
      by_cases h3 : k ≤ 480 - n
      · have a1 : nI k ≤ nI (480 - n) := nI_le h3 (by omega)
        have a2 : nI (n + k) ≤ 480 := nI_le (a := n + k) (b := 480) (by omega) (by omega)
        rw [if_pos a1, if_pos a2]
        rcases ty_l1 w hk8 S (pI M 0 0 0) k 0 (by omega) 600 600 (by omega) (by omega) with ⟨g1, g2⟩ | ⟨g0, g1, g2⟩
        · exact ⟨_, _, _, g1, g2, hR, eqC.rf _ _, f0⟩
        · obtain ⟨S', M', p1, p2, p3, p4, p5⟩ := ty_l2 w k hk8 600 600 (by omega) (by omega) S (pI M 0 0 0) n (by omega) e1 e2' hx' (fun j hj => g0 j (Nat.zero_le _) hj)
          exact ⟨S', M', true, g1.trans p1, g2.trans p2, p3, p4, f0.tr p5⟩
      · have a1 : ¬ nI k ≤ nI (480 - n) := nI_ge (by omega) (by omega)
        have a2 : ¬ nI (n + k) ≤ 480 := nI_ge (a := 480) (b := n + k) (by omega) (by omega)
        rw [if_neg a1, if_neg a2]
        exact ⟨_, _, _, rfl, rfl, hR, eqC.rf _ _, f0⟩
