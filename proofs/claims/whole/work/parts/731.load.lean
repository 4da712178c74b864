section LD2
variable {S S' : CS} {M M' : MS} {o : Nat → Int64} {m : Nat}
theorem pcl_d (β : Nat) : pcl β = 7 ∨ pcl β = 124 := by
  unfold pcl
  split
  · exact Or.inr rfl
  · exact Or.inl rfl
/-- both begin to read -/
theorem ld_beg (hT : TxR S M) {β : Nat} (hB : BkR S M β) : ∃ E : EnvR, Ew E ∧ eD E = pcl (1 - β) ∧ eB E = 1 - β ∧ eS E = S ∧ eM E = M ∧ ∃ x y, cReader_read (gI S 0 1) S = x ∧ m_load M = y ∧ LO E x y := by
  obtain ⟨n, hn, t1, t2, t3⟩ := hT
  obtain ⟨hβ, k1, k2, k3⟩ := hB
  have hd := pcl_d (1 - β)
  generalize hdd : pcl (1 - β) = d at hd k3
  have hb1 : 1 - β ≤ 1 := by omega
  -- the class
  obtain ⟨S1, a1, a2, a3, a4, a5, a6⟩ := cl_all d (pI (pI (pI S 2 2 0) 2 3 (-1)) 2 4 (-1))
  have aT : ∀ j, gI S1 1 j = gI S 1 j := by
    intro j
    rw [(a2 1 j (by omega)).1]
    (repeat (first | rw [gI_same] | rw [gI_other _ _ (by omega)] | rw [gI_pL] | rw [gI_pB] | rw [gI_pR]))
  have hTC : TxC (fun j => txN (gI S 1 j)) n S1 := by
    refine ⟨hn, fun j hj => ?_⟩
    obtain ⟨-, c, c1, c2, c3⟩ := t3 j hj
    have : txN (gI S 1 j) = c := by rw [c3]; exact tx_nI (by omega)
    show gI S1 1 j = nI (txN (gI S 1 j)) ∧ 32 ≤ txN (gI S 1 j) ∧ txN (gI S 1 j) ≤ 126
    rw [this, aT j]
    exact ⟨c3, c1, c2⟩
  obtain ⟨T, N, b1, b2, n0, n1, n2, n3, n4, n5, n6⟩ := scan_eq hTC
  -- the reference
  obtain ⟨M1, m1, m2, -, m4⟩ := l12 hβ 5 0 (by omega) 600 (by omega) (pI (pI M 0 7 0) 0 4 0) (by rw [gI_other _ _ (by omega), gI_other _ _ (by omega)]; exact k1)
  have m1' : m_load_L12 600 0 (pI (pI M 0 7 0) 0 4 0) = (m_next M1).bind (m_load_L41 600) := m1
  have mT : TxM (fun j => txN (gI S 1 j)) n M1 := by
    refine ⟨hn, ?_, fun j hj => ?_⟩
    · rw [(m2 0 2 (by omega)).1]
      (repeat (first | rw [gI_same] | rw [gI_other _ _ (by omega)] | rw [gI_pL] | rw [gI_pB] | rw [gI_pR]))
      exact t2
    · obtain ⟨e1, c, c1, c2, c3⟩ := t3 j hj
      have : txN (gI S 1 j) = c := by rw [c3]; exact tx_nI (by omega)
      show gI M1 1 j = nI (txN (gI S 1 j)) ∧ 32 ≤ txN (gI S 1 j) ∧ txN (gI S 1 j) ≤ 126
      rw [this, (m2 1 j (by omega)).1, gI_other _ _ (by omega), gI_other _ _ (by omega), e1]
      exact ⟨c3, c1, c2⟩
  have m7 : gI M1 0 7 = 0 := by
    rw [(m2 0 7 (by omega)).1]
    (repeat (first | rw [gI_same] | rw [gI_other _ _ (by omega)] | rw [gI_pL] | rw [gI_pB] | rw [gI_pR]))
  have m04 : gI M1 0 4 = nI 0 := by
    rw [(m2 0 4 (by omega)).1, gI_same]
    rfl
  obtain ⟨M2, x1, x2, x3⟩ := nx_eq mT m7 (Nat.zero_le _) m04
  let E : EnvR := (fun j => txN (gI S 1 j), n, N, d, 1 - β, S, M)
  have eDE : eD E = d := rfl
  have eBE : eB E = 1 - β := rfl
  have hE : Ew E := ⟨hd, hb1, by
    show gI M 0 12 = nI (1 - (1 - β))
    rw [k1, show 1 - (1 - β) = β by omega], hn⟩
  refine ⟨E, hE, rfl, rfl, rfl, rfl, _, _, rfl, rfl, ?_⟩
  have hread : cReader_read (gI S 0 1) S = cReader_read_L33 600 0 T := by
    unfold cReader_read
    rw [bd, bd, bd, bd]
    have hr : gR (pI (pI (pI S 2 2 0) 2 3 (-1)) 2 4 (-1)) 2 1 = d := k3
    rw [hr, if_pos (kd_d hd), a1, Option.bind_some, t1, b1, Option.bind_some]
  have hload : m_load M = m_load_L41 600 M2 := by
    unfold m_load
    rw [bd, bd]
    rw [m1', x1, Option.bind_some]
  rw [hread, hload]
  -- frames
  have fS1 : ∀ k j, ¬ (k = 2 ∧ 2 ≤ j ∧ j ≤ 4) → ¬ (d ≤ k ∧ k < d + 21) → gI S1 k j = gI S k j ∧ gL S1 k j = gL S k j ∧ gR S1 k j = gR S k j ∧ gB S1 k j = gB S k j := by
    intro k j g1 g2
    obtain ⟨q1, q2, q3, q4⟩ := a2 k j g2
    refine ⟨?_, q2, q3, q4⟩
    rw [q1, gI_other _ _ (by omega), gI_other _ _ (by omega), gI_other _ _ (by omega)]
  have fT : ∀ k j, ¬ (k = 3 ∧ (j = 3 ∨ j = 4)) → ¬ (4 ≤ k ∧ k ≤ 6) → gI T k j = gI S1 k j ∧ gL T k j = gL S1 k j ∧ gR T k j = gR S1 k j ∧ gB T k j = gB S1 k j := by
    intro k j g1 g2
    obtain ⟨q1, q2, q3, q4⟩ := n6 k j (fun z => by omega)
    refine ⟨?_, q2, q3, q4⟩
    rw [q1, gI_other _ _ (by omega), gI_other _ _ (by omega)]
  have hfc : FC E T := by
    intro k j g
    have g' : xF d k j := g
    obtain ⟨p1, p2, p3, p4⟩ := fT k j (fun z => g' (Or.inr (Or.inl z))) (fun z => g' (Or.inr (Or.inr (Or.inl z))))
    obtain ⟨q1, q2, q3, q4⟩ := fS1 k j (fun z => g' (Or.inl ⟨z.1, by omega, by omega⟩)) (fun z => g' (Or.inr (Or.inr (Or.inr ⟨z.1, by omega⟩))))
    exact ⟨p1.trans q1, p2.trans q2, p3.trans q3, p4.trans q4⟩
  have hfm : FM E M2 := by
    refine eqC.tr (T := M1) ?_ (x2.mono (fun k j g => yF_tk g))
    refine eqC.tr (T := pI (pI M 0 7 0) 0 4 0) (((eqC.rf _ _).I _ (nf_r (by omega))).I _ (nf_r (by omega))) (m2.mono (fun k j g z => ?_))
    exact g (Or.inr (by rw [z.1]; exact y_2 z.2.1 z.2.2))
  have tD : ∀ k j, d ≤ k → gI T k j = gI S1 k j := fun k j hk => (fT k j (by omega) (by omega)).1
  have hdr : Dr d (1 - β) (fun _ => 0) T M2 := by
    have mm : ∀ w, w < 5 → gI M2 2 (5 * (1 - β) + w) = nI 0 := fun w hw => ((x2 2 _ (yT_n (by omega))).1).trans (m4 w (by omega) hw)
    refine ⟨⟨hd, hb1⟩, ?_, ⟨fun _ _ => Nat.zero_le _, Nat.le_refl _, Nat.zero_le _, fun _ _ => Nat.zero_le _, Nat.le_refl _, Nat.le_refl _, Nat.le_refl _⟩, fun w hw => ⟨?_, mm w (by omega)⟩, ⟨?_, mm 4 (by omega)⟩, fun w hw j hj => absurd hj (Nat.not_lt_zero _), fun c hc => ⟨?_, fun z => absurd z (Nat.not_lt_zero _)⟩, fun c hc => absurd hc (Nat.not_lt_zero _), fun _ _ _ => rfl, fun a ha t ht => ?_, fun j hj => absurd hj (Nat.not_lt_zero _), fun j hj => absurd hj (Nat.not_lt_zero _)⟩
    · rw [(fT 2 1 (by omega) (by omega)).2.2.1, (fS1 2 1 (by omega) (by omega)).2.2.1]
      exact k3
    · rw [tD _ _ (by omega)]
      exact a3 w hw
    · rw [tD _ _ (by omega)]
      exact a4
    · rw [tD _ _ (by omega)]
      exact a5 c hc
    · rw [tD _ _ (by omega), a6 a ha, b_0]
      rfl
  have htc : TC E T 0 := ⟨n2, b2, n0, n1, n3, n4, n5⟩
  have hx : Xc E (-1) false 0 (fun _ => 0) T M2 := by
    have f24 : ∀ j, 2 ≤ j → j ≤ 4 → gI T 2 j = gI (pI (pI (pI S 2 2 0) 2 3 (-1)) 2 4 (-1)) 2 j := fun j h1 h2 => (fT 2 j (by omega) (by omega)).1.trans (a2 2 j (by omega)).1
    refine ⟨?_, fun z => absurd rfl z, fun j hj => absurd hj (Nat.not_lt_zero _), ?_, ?_⟩
    · rw [f24 4 (by omega) (by omega), gI_same]
    · rw [f24 2 (by omega) (by omega)]
      (repeat (first | rw [gI_same] | rw [gI_other _ _ (by omega)] | rw [gI_pL] | rw [gI_pB] | rw [gI_pR]))
    · rw [f24 3 (by omega) (by omega)]
      (repeat (first | rw [gI_same] | rw [gI_other _ _ (by omega)] | rw [gI_pL] | rw [gI_pB] | rw [gI_pR]))
  have hAX : AX E (fun _ => 0) (Xc E (-1) false 0 (fun _ => 0)) T M2 0 := by
    rcases x3 with ⟨y1, y2, y3⟩ | ⟨y1, y2, y3⟩
    · exact Or.inl ⟨⟨htc, hfc, hfm, hdr, mT.fr x2, y1, y2, y3⟩, hx⟩
    · exact Or.inr ⟨htc, hfc, hfm, hdr.dc, y1, y2, y3⟩
  exact (st_loop hE 481 (Nat.le_refl _) 0 (by omega) 0 600 600 (by omega) (by omega) (by omega) (fun _ => 0) (fun _ => 0) T M2 ⟨rfl, rfl, rfl, rfl⟩ ⟨fun j j' h1 h2 => absurd h2 (Nat.not_lt_zero _), fun j hj => absurd hj (Nat.not_lt_zero _)⟩).1 hAX
end LD2
