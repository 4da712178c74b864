section RUM
variable {E : EnvR} {P : Nat → Nat} {S S' S0 : CS} {M M' M'' : MS} {i k r d b : Nat} {X Y : CS → MS → Prop} {Q2 : CS → MS → Prop}
theorem AX.fin (h : AX E P Y S M i) (h9 : P 4 < P 9) (hY : Lv E P S M i → Y S M → RuD S M (eD E + 21 + 4 * P 4) (24 * eB E + P 4) (P 0) (P 3) ∧ X S M) : AX E (up P 4 (P 4 + 1)) X S M i := by
  rcases h with ⟨h, hx⟩ | h
  · obtain ⟨g1, g2⟩ := hY h hx
    exact Or.inl ⟨h.up (eqC.rf _ _) (eqC.rf _ _) (h.dr.ru1 h9 g1), g2⟩
  · exact Or.inr ⟨h.tc, h.fc, h.fm, h.dc.up (Or.inl rfl), h.is, h.b1, h.pl⟩
def Sf (S : CS) (M : MS) (k r : Nat) : Prop := gB S k 6 = gB M 19 r ∧ (gB S k 6 = false → SetR S M (k + 2) (2 * r + 1))
theorem Sf.st {x y : Nat → Nat → Prop} (h6 : x k 6) (h19 : y 19 r) (hx : ∀ j, x (k + 2) j) (h1 : y 21 (2 * r + 1)) (h2 : y 22 (2 * r + 1)) : Sta x y (fun S M => Sf S M k r) := by
  intro S M S' M' g e1 e2
  have a := (e1 k 6 h6).2.2.2
  refine ⟨a.trans (g.1.trans (e2 19 r h19).2.2.2.symm), fun z => ?_⟩
  exact SetR.sx hx h1 h2 S M S' M' (g.2 (a.symm.trans z)) e1 e2
def XE (X : CS → MS → Prop) (k r w p nb : Nat) : CS → MS → Prop := fun S M => (X S M ∧ RB S M k r w p nb) ∧ (SetR S M (k + 1) (2 * r) ∧ Sf S M k r)
def XF (X : CS → MS → Prop) (k r w p nb : Nat) : CS → MS → Prop := fun S M => XE X k r w p nb S M ∧ Cz S M k r
theorem yT_n {k j : Nat} (h : k ≠ 0) : yTk k j := fun z => h z.1
theorem XE.p {w p nb : Nat} (hk : 7 ≤ k) (hX : Sta (xP k) (yP r) X) : Sta (xP k) (yP r) (XE X k r w p nb) := by
  have y1 : ∀ a j, a ≠ 0 → a ≠ 16 → a ≠ 17 → a ≠ 20 → yP r a j := fun a j h0 h1 h2 h3 => ⟨yT_n h0, fun z => h1 z.1, fun z => h2 z.1, fun z => h3 z.1⟩
  have x1 : ∀ a j, 7 ≤ a → ¬ (a = k ∧ (j = 9 ∨ j = 11)) → a ≠ k + 3 → xP k a j := fun a j h0 h1 h2 => ⟨by omega, h1, h2⟩
  exact Sta.an (Sta.an hX (RB.st (fun j hj => x1 _ _ hk (by omega) (by omega)) (y1 _ _ (by omega) (by omega) (by omega) (by omega)) (y1 _ _ (by omega) (by omega) (by omega) (by omega)) (y1 _ _ (by omega) (by omega) (by omega) (by omega)) (y1 _ _ (by omega) (by omega) (by omega) (by omega)))) (Sta.an (SetR.sx (fun j => x1 _ _ (by omega) (by omega) (by omega)) (y1 _ _ (by omega) (by omega) (by omega) (by omega)) (y1 _ _ (by omega) (by omega) (by omega) (by omega))) (Sf.st (x1 _ _ hk (by omega) (by omega)) (y1 _ _ (by omega) (by omega) (by omega) (by omega)) (fun j => x1 _ _ (by omega) (by omega) (by omega)) (y1 _ _ (by omega) (by omega) (by omega) (by omega)) (y1 _ _ (by omega) (by omega) (by omega) (by omega))))
theorem XF.m {w p nb : Nat} (hk : 7 ≤ k) (hX : Sta (xP k) (yP r) X) : Sta (xM k) (yM r) (XF X k r w p nb) := by
  refine Sta.an ((XE.p hk hX).mono (fun a j g => ⟨g.1, g.2.1⟩) (fun a j g => ⟨g.1, g.2.1, g.2.2.1⟩)) (Cz.st (fun j => ⟨by omega, by omega⟩) (fun c hc => ⟨yT_n (by omega), by omega, by omega⟩))
theorem r166 (hX : Sta xT yTk X) (h : AX E P X S M i) : Ou E (fun S' M' => AX E P X S' M' (i + 1)) (cReader_readRule_J166 true S) (m_readRule_J367 M) := by
  unfold cReader_readRule_J166 m_readRule_J367
  rw [if_pos rfl]
  exact Ou.m1 (Ou.c2 (exX hX h (c := 59) rfl (by omega) (by omega) (by omega) (by omega)))
theorem rul_t (hE : Ew E) (hm : P 4 < 24) (hk : k = eD E + 21 + 4 * P 4) (hr : r = 24 * eB E + P 4) (hX : Sta (xP k) (yP r) X) (h10 : P 10 = P 2) (h9 : P 4 < P 9) {w p : Nat} (hw : w < 5) (hp : p ≤ 480) (hi2 : 2 ≤ i) (h : AX E P (fun S M => XF X k r w p (P 3) S M ∧ gI S k 9 = 0) S M i) : Ou E (fun S' M' => ∃ i', i < i' ∧ AX E (up P 4 (P 4 + 1)) (fun S M => X S M ∧ gI S k 1 = nI p) S' M' i') (cReader_readRule_J119 (w + 5) k S) (m_readRule_J225 (nI w) (nI (eB E)) (nI r) M) := by
  have hd := hE.1
  have hXF := XF.m (w := w) (p := p) (nb := P 3) (by omega : 7 ≤ k) hX
  have hXE := XE.p (w := w) (p := p) (nb := P 3) (by omega : 7 ≤ k) hX
  have hXT : Sta xT yTk (fun S M => XF X k r w p (P 3) S M ∧ gI S k 9 = 0) := Sta.an hXF.m (fun S M S' M' g e1 e2 => (e1 k 9 (fun z => by omega)).1.trans g)
  have hbm : BM E (r225 (nI w) (nI (eB E)) (nI r)) := by rw [hr]; exact b225r hE hm _ _
  rw [J225_eq]
  unfold cReader_readRule_J119
  refine (exX hXT h (c := 58) rfl (by omega) (by omega) (by omega) (by omega)).sq hbm (fun _ => rfl) (fun S1 M1 h1 => ?_)
  dsimp only
  rw [if_pos rfl]
  unfold r225
  by_cases hw4 : w = 4
  · subst hw4
    rw [if_pos rfl, if_pos (show nI 4 = 4 from rfl)]
    refine (rd_move hE hm hk hr hXF (h1.im (fun _ _ g => g.1))).im ?_
    rintro S2 M2 ⟨i', p1, p2⟩
    refine ⟨i', by omega, p2.fin h9 (fun hl g => ?_)⟩
    obtain ⟨⟨⟨⟨⟨x0, b1, b2, b3, b4, b5⟩, s1, s2, s3⟩, c0⟩, v, v1, v2, v3, v4⟩, t, t1, t2, t3⟩ := g
    rw [← hk, ← hr]
    exact ⟨⟨⟨4, by omega, b1, b2⟩, ⟨p, hp, b3, b4⟩, b5, s2, s1, s3, ⟨v, v1, v2, v3⟩, fun c hc => ⟨0, by omega, (c0 c hc).1, (c0 c hc).2, fun _ => rfl⟩, fun _ => ⟨t, t1, t2, t3⟩⟩, x0, b3⟩
  · rw [if_neg (show ¬ w + 5 = 9 by omega), if_neg (show ¬ nI w = 4 from fun z => hw4 ((nI_eq (b := 4) (by omega) (by omega)).mp z))]
    refine rd_cls hE hm hk hr hXF (by omega) (F := fun q147 => (if q147.2 = true then ((cReader_readPermissions k q147.1).bind fun q155 => (if q155.2 = true then cReader_readRule_J166 true q155.1 else cReader_readRule_J165 q155.1)) else cReader_readRule_J165 q147.1)) (fun _ => rfl) (fun S2 M2 j2 hj2 h2 => ?_) h1
    dsimp only
    rw [if_pos rfl]
    unfold m_readRule_J361
    refine (rd_perms hE hm hk hr hXE h10 (h2.im (fun S M g => ⟨⟨g.1.1, g.2⟩, g.1.2⟩))).sq b367 (fun _ => rfl) (fun S3 M3 h3 => ?_)
    obtain ⟨j3, hj3, h3⟩ := h3
    dsimp only
    rw [if_pos rfl]
    have hXY : Sta xT yTk (XP (XE X k r w p (P 3)) k r (P 2)) := Sta.an (Sta.an hXE.p (ClR.st (by omega))) (PeR.st (by omega))
    refine (r166 hXY h3).im (fun S4 M4 h4 => ⟨j3 + 1, by omega, h4.fin h9 (fun hl g => ?_)⟩)
    obtain ⟨⟨⟨⟨x0, b1, b2, b3, b4, b5⟩, s1, s2, s3⟩, v, v1, v2, v3, v4⟩, gp⟩ := g
    rw [← hk, ← hr]
    exact ⟨⟨⟨w, hw, b1, b2⟩, ⟨p, hp, b3, b4⟩, b5, s2, s1, s3, ⟨v, v1, v2, v3⟩, gp, fun z => absurd ((nI_eq (by omega) (by omega)).mp (b2.symm.trans z)) hw4⟩, x0, b3⟩
end RUM
