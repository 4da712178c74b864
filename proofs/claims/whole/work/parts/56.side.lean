/-! side by side -/
abbrev AX (E : EnvR) (P : Nat → Nat) (X : CS → MS → Prop) (S : CS) (M : MS) (i : Nat) : Prop := (Lv E P S M i ∧ X S M) ∨ Li E P S M i
def MB (E : EnvR) (M M' : MS) : Prop := gI M' 0 7 = gI M 0 7 ∧ gI M' 0 8 = gI M 0 8 ∧ eqC (yF (eB E)) M M'
def BM (E : EnvR) (h : MS → Option MS) : Prop := ∀ M, ¬ gI M 0 7 = 0 → FM E M → ∃ M', h M = some M' ∧ MB E M M'
def Ou (E : EnvR) (Q : CS → MS → Prop) (x : Option (CS × Bool)) (y : Option MS) : Prop := ∃ S' M' f, x = some (S', f) ∧ y = some M' ∧ ((f = true ∧ Q S' M') ∨ (f = false ∧ Bd E S' M'))
def Sta (x y : Nat → Nat → Prop) (X : CS → MS → Prop) : Prop := ∀ S M S' M', X S M → eqC x S S' → eqC y M M' → X S' M'
def xT (k j : Nat) : Prop := ¬ (k = 3 ∧ j = 4)
def xO (d k _j : Nat) : Prop := ¬ (d ≤ k ∧ k < d + 117)
def yO (b k j : Nat) : Prop := ¬ yD b 24 k j
def xN (d k j : Nat) : Prop := ¬ (k = 3 ∧ j = 4) ∧ ¬ (d ≤ k ∧ k < d + 21)
def yN (b k j : Nat) : Prop := yTk k j ∧ ¬ yD b 0 k j
def up (P : Nat → Nat) (w v : Nat) : Nat → Nat := fun n => if n = w then v else P n
theorem up_eq (P : Nat → Nat) (w v : Nat) : up P w v w = v := if_pos rfl
theorem up_ne {P : Nat → Nat} {w v n : Nat} (h : n ≠ w) : up P w v n = P n := if_neg h
theorem nxO {d k j : Nat} (h1 : d ≤ k) (h2 : k < d + 117) : ¬ xO d k j := fun g => g ⟨h1, h2⟩
theorem nyO {b k j : Nat} (h : yD b 24 k j) : ¬ yO b k j := fun g => g h
theorem nxT : ¬ xT 3 4 := fun g => g ⟨rfl, rfl⟩
theorem nxN_t {d : Nat} : ¬ xN d 3 4 := fun g => g.1 ⟨rfl, rfl⟩
theorem nxN_d {d k j : Nat} (h1 : d ≤ k) (h2 : k < d + 21) : ¬ xN d k j := fun g => g.2 ⟨h1, h2⟩
theorem nyN {b k j : Nat} (h : yD b 0 k j) : ¬ yN b k j := fun g => g.2 h
theorem xN_T {d k j : Nat} (h : xN d k j) : xT k j := h.1
theorem yN_T {b k j : Nat} (h : yN b k j) : yTk k j := h.1
theorem Sta.mono {x y x' y' : Nat → Nat → Prop} {X : CS → MS → Prop} (h : Sta x y X) (h1 : ∀ k j, x k j → x' k j) (h2 : ∀ k j, y k j → y' k j) : Sta x' y' X := fun S M S' M' g e1 e2 => h S M S' M' g (e1.mono h1) (e2.mono h2)
theorem b51 {b : Nat} (h : b ≤ 1) : inbd (5 * nI b + 1) 10 = true ∧ txN (5 * nI b + 1) = 5 * b + 1 := bk5 h (c := 1) (by omega)
theorem b52 {b : Nat} (h : b ≤ 1) : inbd (5 * nI b + 2) 10 = true ∧ txN (5 * nI b + 2) = 5 * b + 2 := bk5 h (c := 2) (by omega)
theorem b53 {b : Nat} (h : b ≤ 1) : inbd (5 * nI b + 3) 10 = true ∧ txN (5 * nI b + 3) = 5 * b + 3 := bk5 h (c := 3) (by omega)
theorem b54 {b : Nat} (h : b ≤ 1) : inbd (5 * nI b + 4) 10 = true ∧ txN (5 * nI b + 4) = 5 * b + 4 := bk5 h (c := 4) (by omega)
section SBS
variable {E : EnvR} {P : Nat → Nat} {S S' : CS} {M M' M'' : MS} {i : Nat} {X Y : CS → MS → Prop} {Q Q2 : CS → MS → Prop} {x : Option (CS × Bool)} {y : Option MS}
theorem MB.rf : MB E M M := ⟨rfl, rfl, eqC.rf _ _⟩
theorem MB.tr (h1 : MB E M M') (h2 : MB E M' M'') : MB E M M'' := ⟨h2.1.trans h1.1, h2.2.1.trans h1.2.1, h1.2.2.tr h2.2.2⟩
theorem MB.I {k j : Nat} (h : MB E M M') (v : Int32) (hD : yD (eB E) 24 k j) : MB E M (pI M' k j v) := by
  have hk : ¬ (0 = k) := fun e => ny_0 (Or.inl (by omega)) hD
  exact ⟨by rw [gI_other _ _ (fun e => hk e.1)]; exact h.1, by rw [gI_other _ _ (fun e => hk e.1)]; exact h.2.1, h.2.2.I _ (nf_y hD)⟩
theorem MB.B {k j : Nat} (h : MB E M M') (v : Bool) (hD : yD (eB E) 24 k j) : MB E M (pB M' k j v) := ⟨h.1, h.2.1, h.2.2.B _ (nf_y hD)⟩
theorem BM.sm : BM E some := fun M _ _ => ⟨M, rfl, MB.rf⟩
theorem BM.bd {h g : MS → Option MS} (h1 : BM E h) (h2 : BM E g) : BM E (fun M => (h M).bind g) := by
  intro M hb hf
  obtain ⟨M1, e1, g1⟩ := h1 M hb hf
  obtain ⟨M2, e2, g2⟩ := h2 M1 (by rw [g1.1]; exact hb) (hf.tr g1.2.2)
  exact ⟨M2, by show (h M).bind g = _; rw [e1, Option.bind_some, e2], g1.tr g2⟩
theorem BM.bs {h : MS → Option MS} (h1 : BM E h) : BM E (fun M => (h M).bind fun q => some q) := h1.bd BM.sm
theorem BM.mu (v : Int32) : BM E (m_must v) := fun M hb _ => ⟨M, mu_b hb, MB.rf⟩
theorem BM.nx : BM E m_next := fun M hb _ => ⟨M, nx_b hb, MB.rf⟩
theorem BM.id {h : MS → Option MS} (h1 : ∀ M, ¬ gI M 0 7 = 0 → h M = some M) : BM E h := fun M hb _ => ⟨M, h1 M hb, MB.rf⟩
theorem Bd.fm (h : Bd E S M) : FM E M := by
  obtain ⟨i, -, -, h, -⟩ := h
  exact h
theorem Bd.mb (h : Bd E S M) (g : MB E M M') : Bd E S M' := h.m g.1 g.2.1 g.2.2
theorem Ou.t (h : Q S M) : Ou E Q (some (S, true)) (some M) := ⟨S, M, true, rfl, rfl, Or.inl ⟨rfl, h⟩⟩
theorem Ou.f (h : Bd E S M) : Ou E Q (some (S, false)) (some M) := ⟨S, M, false, rfl, rfl, Or.inr ⟨rfl, h⟩⟩
theorem Ou.fb {k : MS → Option MS} (h : Bd E S M) (hk : BM E k) : Ou E Q (some (S, false)) (k M) := by
  obtain ⟨M', e, g⟩ := hk M h.nb h.fm
  rw [e]
  exact Ou.f (h.mb g)
theorem Ou.im (h : Ou E Q x y) (g : ∀ S M, Q S M → Q2 S M) : Ou E Q2 x y := by
  obtain ⟨S', M', f, e1, e2, e3⟩ := h
  refine ⟨S', M', f, e1, e2, ?_⟩
  rcases e3 with ⟨a, b⟩ | ⟨a, b⟩
  · exact Or.inl ⟨a, g _ _ b⟩
  · exact Or.inr ⟨a, b⟩
theorem Ou.seq {g : CS → Option (CS × Bool)} {k : MS → Option MS} (h : Ou E Q x y) (hk : BM E k) (h1 : ∀ S' M', Q S' M' → Ou E Q2 (g S') (k M')) : Ou E Q2 (x.bind fun q => if q.2 = true then g q.1 else some (q.1, false)) (y.bind k) := by
  obtain ⟨S', M', f, e1, e2, e3⟩ := h
  rw [e1, e2, Option.bind_some, Option.bind_some]
  rcases e3 with ⟨rfl, b⟩ | ⟨rfl, b⟩
  · rw [if_pos rfl]
    exact h1 _ _ b
  · rw [if_neg Bool.false_ne_true]
    exact Ou.fb b hk
theorem Ou.sq {F : CS × Bool → Option (CS × Bool)} {k : MS → Option MS} (h : Ou E Q x y) (hk : BM E k) (h0 : ∀ S', F (S', false) = some (S', false)) (h1 : ∀ S' M', Q S' M' → Ou E Q2 (F (S', true)) (k M')) : Ou E Q2 (x.bind F) (y.bind k) := by
  obtain ⟨S', M', f, e1, e2, e3⟩ := h
  rw [e1, e2, Option.bind_some, Option.bind_some]
  rcases e3 with ⟨rfl, b⟩ | ⟨rfl, b⟩
  · exact h1 _ _ b
  · rw [h0]
    exact Ou.fb b hk
theorem Ou.e1 (h : Ou E Q x y) : Ou E Q (x.bind fun q => some (q.1, q.2)) (y.bind fun q => some q) := by
  obtain ⟨S', M', f, e1, e2, e3⟩ := h
  rw [e1, e2, Option.bind_some, Option.bind_some]
  exact ⟨S', M', f, rfl, rfl, e3⟩
theorem Ou.c1 (h : Ou E Q x y) : Ou E Q (x.bind fun q => some (q.1, q.2)) y := by
  obtain ⟨S', M', f, e1, e2, e3⟩ := h
  rw [e1, e2, Option.bind_some]
  exact ⟨S', M', f, rfl, rfl, e3⟩
theorem Ou.m1 (h : Ou E Q x y) : Ou E Q x (y.bind fun q => some q) := by
  obtain ⟨S', M', f, e1, e2, e3⟩ := h
  rw [e1, e2, Option.bind_some]
  exact ⟨S', M', f, rfl, rfl, e3⟩
theorem Ou.c2 (h : Ou E Q x y) : Ou E Q (x.bind fun q => if q.2 = true then some (q.1, true) else some (q.1, false)) y := by
  obtain ⟨S', M', f, e1, e2, e3⟩ := h
  rw [e1, e2, Option.bind_some]
  refine ⟨S', M', f, ?_, rfl, e3⟩
  cases f <;> rfl
theorem AX.al (h : AX E P X S M i) : AL E P S M i := h.elim (fun g => Or.inl g.1) Or.inr
theorem AX.get (h : AX E P X S M i) (hl : Lv E P S M i) : X S M := by
  rcases h with h | h
  · exact h.2
  · exact absurd h.is hl.ne
theorem AX.mk (h : AL E P S M i) (hx : X S M) : AX E P X S M i := h.elim (fun g => Or.inl ⟨g, hx⟩) Or.inr
theorem AX.im (h : AX E P X S M i) (g : ∀ S M, X S M → Y S M) : AX E P Y S M i := h.elim (fun q => Or.inl ⟨q.1, g _ _ q.2⟩) Or.inr
theorem AX.tc (h : AX E P X S M i) : TC E S i := h.elim (fun g => g.1.tc) (fun g => g.tc)
theorem xT_t (S : CS) (v : Int32) : eqC xT S (pI S 3 4 v) := (eqC.rf _ _).I _ nxT
theorem exX (hX : Sta xT yTk X) (h : AX E P X S M i) {v : Int32} {c : Nat} (hx : v = nI c) (hc : c < 127) (h1 : c ≠ 32) (h2 : c ≠ 97) (h3 : c ≠ 63) : Ou E (fun S' M' => AX E P X S' M' (i + 1)) (cReader_expect v S) (m_must v M) := by
  obtain ⟨S', M', f, e1, e2, e3⟩ := ex h.al hx hc h1 h2 h3
  refine ⟨S', M', f, e1, e2, ?_⟩
  rcases e3 with ⟨rfl, g1, g2, g3, g4, g5⟩ | g
  · exact Or.inl ⟨rfl, AX.mk g5 (by rw [g3]; exact hX _ _ _ _ (h.get g2) (xT_t _ _) g4)⟩
  · exact Or.inr g
theorem skX (hX : Sta xT yTk X) (h : AX E P X S M i) {v : Int32} {c : Nat} (hx : v = nI c) (hc : c < 127) (h1 : c ≠ 32) (h2 : c ≠ 97) (h3 : c ≠ 63) : ∃ S' M' f, cTokens_skip v S = some (S', f) ∧ m_passes v M = some (M', f) ∧ ((f = false ∧ S' = S ∧ M' = M ∧ (tkE E i).1 ≠ c) ∨ (f = true ∧ (tkE E i).1 = c ∧ AX E P X S' M' (i + 1) ∧ S' = pI S 3 4 (nI (i + 1)))) := by
  obtain ⟨S', M', f, e1, e2, e3⟩ := sk h.al hx hc h1 h2 h3
  refine ⟨S', M', f, e1, e2, ?_⟩
  rcases e3 with g | ⟨rfl, g1, g2, g3, g4, g5⟩
  · exact Or.inl g
  · exact Or.inr ⟨rfl, g1, AX.mk g5 (by rw [g3]; exact hX _ _ _ _ (h.get g2) (xT_t _ _) g4), g3⟩
theorem adX (hX : Sta xT yTk X) (h : Lv E P S M i) (hx : X S M) (hne : (tkE E i).1 ≠ 32) : ∃ M', m_next M = some M' ∧ cTokens_advance S = some (pI S 3 4 (nI (i + 1))) ∧ AX E P X (pI S 3 4 (nI (i + 1))) M' (i + 1) := by
  obtain ⟨M', e1, e2, e3, e4⟩ := adv h hne
  exact ⟨M', e1, e2, AX.mk e4 (hX _ _ _ _ hx (xT_t _ _) e3)⟩
theorem Lv.up {P' : Nat → Nat} (h : Lv E P S M i) (hc : eqC (xO (eD E)) S S') (hm : eqC (yO (eB E)) M M') (hD : Dr (eD E) (eB E) P' S' M') : Lv E P' S' M' i := by
  obtain ⟨g1, g2, g3, g4, g5, g6, g7, g8⟩ := h
  have hd := g4.hd.1
  have m0 : ∀ j, gI M' 0 j = gI M 0 j ∧ gL M' 0 j = gL M 0 j := fun j => ⟨(hm 0 j (ny_0 (Or.inl (by omega)))).1, (hm 0 j (ny_0 (Or.inl (by omega)))).2.1⟩
  refine ⟨g1.w (hc.mono ?_), g2.tr (hc.mono ?_), g3.tr (hm.mono ?_), hD, ⟨g5.1, (m0 2).1.trans g5.2.1, ?_⟩, g6, (m0 7).1.trans g7, ?_⟩
  · intro k j g
    unfold xO
    omega
  · intro k j g z
    exact g (Or.inr (Or.inr (Or.inr z)))
  · intro k j g z
    exact g (Or.inr z)
  · intro j hj
    rw [(hm 1 j (ny_0 (Or.inl (by omega)))).1]
    exact g5.2.2 j hj
  · unfold Cur
    rw [(m0 3).1, (m0 4).1, (m0 5).1, (m0 6).1, (m0 11).2]
    exact g8
def xK (d k j : Nat) : Prop := (k = 2 ∧ j = 1) ∨ (d + 1 ≤ k ∧ k ≤ d + 8) ∨ (d + 13 ≤ k ∧ k ≤ d + 20)
theorem DC.fk {d : Nat} (h : DC d P S) (hc : eqC (xK d) S S') : DC d P S' := by
  obtain ⟨hd, ptr, nn, pp⟩ := h
  exact ⟨hd, (hc 2 1 (Or.inl ⟨rfl, rfl⟩)).2.2.1.trans ptr, fun w hw => ⟨(nn w hw).1, (hc _ _ (Or.inr (Or.inl (by omega)))).1.trans (nn w hw).2.1, fun j hj => by rw [(hc _ _ (Or.inr (Or.inl (by omega)))).2.1]; exact (nn w hw).2.2 j hj⟩, fun c hcc => ⟨(pp c hcc).1, (hc _ _ (Or.inr (Or.inr (by omega)))).1.trans (pp c hcc).2⟩⟩
theorem nxK {d k j : Nat} (hd : d = 7 ∨ d = 124) (h : k = d ∨ (d + 9 ≤ k ∧ k ≤ d + 12) ∨ d + 21 ≤ k) : ¬ xK d k j := by unfold xK; omega
theorem Li.up (h : Li E P S M i) (hc : eqC (xO (eD E)) S S') (hk : eqC (xK (eD E)) S S') (hm : MB E M M') : Li E P S' M' i := by
  obtain ⟨g1, g2, g3, g4, g5, g6, g7⟩ := h
  have hd := g4.hd
  refine ⟨g1.w (hc.mono ?_), g2.tr (hc.mono ?_), g3.tr hm.2.2, g4.fk hk, g5, hm.1.trans g6, hm.2.1.trans g7⟩
  · intro k j g
    unfold xO
    omega
  · intro k j g z
    exact g (Or.inr (Or.inr (Or.inr z)))
theorem AX.ptr (h : AX E P X S M i) : gR S 2 1 = eD E := h.elim (fun g => g.1.dr.ptr) (fun g => g.dc.ptr)
theorem AX.fm (h : AX E P X S M i) : FM E M := h.elim (fun g => g.1.fm) (fun g => g.fm)
theorem AX.dc (h : AX E P X S M i) : DC (eD E) P S := h.elim (fun g => g.1.dr.dc) (fun g => g.dc)
theorem is97 (h : TC E S i) : cTokens_is 97 S = some (decide ((tkE E i).1 = 97)) := isc h (c := 97) (by omega)
theorem dc_b {x1 x3 x4 : Int32} {x2 : Nat} (h : ¬ gI M 0 7 = 0) : m_declare x1 x2 x3 x4 M = some M := by
  unfold m_declare m_own
  rw [Option.bind_some, in_b h, Option.bind_some, if_neg Bool.false_ne_true]
theorem sg_r {r : Int32} {n : Nat} (h : r = -1 ∨ ∃ j, j < n ∧ r = nI j) (hn : n ≤ 12) : (r = -1 → ¬ (0 : Int32) ≤ r ∧ r < 0) ∧ (¬ r = -1 → (0 : Int32) ≤ r ∧ ¬ r < 0) := by
  rcases h with rfl | ⟨j, hj, rfl⟩
  · exact ⟨fun _ => by decide, fun z => absurd rfl z⟩
  · exact ⟨fun z => absurd z (ne_m1 (by omega)), fun _ => ⟨nI_pos' (by omega), nI_pos (by omega)⟩⟩
theorem n0k {d k w : Nat} (h : DC d P S) (hw : w < 4) (hk : k = d + 1 + 2 * w) : cNames_numberOf k 0 S = some (-1) := by rw [hk]; exact h.n0 hw
theorem dcl_0 {d : Nat} (h : DC d P S) : cPolicy_declares d 0 S = some false := by
  unfold cPolicy_declares
  rw [n0k h (w := 0) (by omega) (by omega), Option.bind_some, if_pos rfl, n0k h (w := 1) (by omega) (by omega), Option.bind_some, if_pos rfl, n0k h (w := 2) (by omega) (by omega), Option.bind_some, if_pos rfl, n0k h (w := 3) (by omega) (by omega), Option.bind_some, if_pos rfl]
theorem lkk (h : Dr (eD E) (eB E) P S M) {w k a : Nat} {o n : Int32} (hw : w < 4) (hk : k = eD E + 1 + 2 * w) (ha : a = mc w) (ho : o = nI (lim w * eB E)) (hn : n = nI (P w)) {x y : Int64} (hxy : NR x y) : ∃ r : Int32, cNames_numberOf k x S = some r ∧ m_find a o n y M = some r ∧ (r = -1 ∨ ∃ j, j < P w ∧ r = nI j) := by
  subst hk ha ho hn
  exact h.lk hw hxy
end SBS
