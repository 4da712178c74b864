set_option maxHeartbeats 8000000 in
set_option maxRecDepth 100000 in
theorem po_loop {l : Launch} {D : va_G} {cA : Nat → ClassId} {b : Nat} {ad : Nat → Nat} {k : Nat} (hk : kd k = 7) {p : Program} {e : Env} {R : Room} {s : State} {m : MethodId} {args : Array Value} {below : List Frame} {meth : Method} {c : Code} {Q : State → Prop} (hR : R = { frames := 3, cells := 116, slots := 819, locals := 60 }) (hQ : Q = MQ below (Kq D cA b ad k 117) args s 116 819 (Ab (b + k))) (hx : p.tables.exec = Jvm.exec) (hb : c.code = prog_6_method_1_code) (hts : ∀ w ∈ TW, w.before args s = true) (hown : s.vm.findClass "TypeGuard$Policy" = some m.cls) (hml : c.maxLocals = 2) (hr : meth.sig.returnType = none) (hlk : meth.locks = false) (hC : Cx D cA b ad s) (hA : Ca s) (hs0 : s.heap.size = b + k + 1) : ∀ q r, r + q = 24 → ∀ (H : Heap) (locs : List Loc) (ls : Array Slot), va_P D kCl (poX cA b ad k (poF b k r) ++ wI cA b ad (List.range' (k + 13) (8 + 4 * r))) H → va_D (Ab (b + k)) (poX cA b ad k (poF b k r) ++ wI cA b ad (List.range' (k + 13) (8 + 4 * r))) → va_S (Ab (b + k)) s.heap H locs → H.size = b + (k + 21 + 4 * r) → lv_has ls 2 [(1, .int (nI r)), (0, .ref (b + k))] → W p l e R s m args below meth c H locs (20 + 4 * r) (147 + 28 * r) Q (F0 m 114 ls []) := by
  have hRf : R.frames = 3 := by rw [hR]
  have hRl : R.locals = 60 := by rw [hR]
  have hRc : R.cells = 116 := by rw [hR]
  have hRs : R.slots = 819 := by rw [hR]
  intro q
  induction q with
  | zero =>
    intro r hrq H locs ls hP hD hS hz hl
    have hr24 : r = 24 := by omega
    subst hr24
    refine lv_iload_n hx hb d_icPolicy_114 rfl (lv_at hl 0 rfl) ?_
    refine lv_bipush (v := 24) hx hb d_icPolicy_115 (by decide) ?_
    refine lv_icmp_ge hx hb d_icPolicy_117 (tgt := 139) (by decide) (fun hc => ?_) (fun hc => ?_)
    rotate_left
    · exact absurd (by decide) hc
    have e0 : (b + k, cS cA b ad Z0 k) = (b + k, .inr (3, [.ref (b + (k + 1)), .ref (b + (k + 3)), .ref (b + (k + 5)), .ref (b + (k + 7)), .ref (b + (k + 9)), .ref (b + (k + 10)), .ref (b + (k + 11)), .ref (b + (k + 12)), .int 0])) := congrArg (Prod.mk (b + k)) (oz_7 hk)
    have hP := P_swap (q := 12) (a := b + (k + 12)) (E' := cS cA b ad Z0 (k + 12)) hP (po_g12 _ _ _ _ _ _) (P_arr (az_13 (show kd (k + 12) = 13 from pk hk (j := 12) (by decide))) (fun j hj => if_pos hj))
    rw [po_fin, ← e0, po_all] at hP
    have hP := P_all hP (show k + 13 = k + 13 from rfl)
    rw [show 13 + (8 + 4 * 24) = 117 from rfl] at hP
    exact kr_ret hQ hx hb hr hP hS (by omega) (by decide) (by decide) hlk d_icPolicy_139
  | succ q ih =>
    intro r hrq H locs ls hP hD hS hz hl
    refine lv_iload_n hx hb d_icPolicy_114 rfl (lv_at hl 0 rfl) ?_
    refine lv_bipush (v := 24) hx hb d_icPolicy_115 (by decide) ?_
    refine lv_icmp_ge hx hb d_icPolicy_117 (tgt := 139) (by decide) (fun hc => ?_) (fun hc => ?_)
    · exact absurd hc (nI_ge (b := 24) (by omega) (by omega))
    refine lv_aload_n hx hb d_icPolicy_120 rfl (lv_at hl 1 rfl) ?_
    refine va_get (ci := 3) (C := rR3) (T := rT3) (N := 9) hx hb hts in_c7 hown hC.1 hP 0 (po_get _ _ _ _ _ _) rfl 7 (by decide) (hts _ t_203) (fun _ h9 => h9) rfl d_icPolicy_121 ?_
    refine lv_iload_n hx hb d_icPolicy_124 rfl (lv_at hl 0 rfl) ?_
    refine kr_new (k := k) (n := (k + 21 + 4 * r)) (C := rR5) (T := rT5) (N := 12) (ci := 5) (fs := [.null, .int 0, .int 0, .int 0, .null, .null, .int 0, .int 0, .int 0, .int 0, .null, .int 0]) hx hb hts in_c14 ry5 ft_c14 hown t_89 t_91 t_6 hC hP hS hz rfl (by decide +kernel) (by rw [hRc]; omega) (by rw [hRs]; omega) d_icPolicy_125 (fun H hP hlt hB hS hz => ?_)
    refine lv_dup hx hb d_icPolicy_128 rfl ?_
    refine kr_call (k := k) (n := (k + 21 + 4 * r)) (va_runIN (As := []) (rest := [.ref (b + (k + 21 + 4 * r)), .int (nI r), .ref (b + (k + 12))]) (n := 0) ⟨hx, hb, hml, hown, hts⟩ (M_icRule (show kd (k + 21 + 4 * r) = 14 from by have h := ke_13 (j := r) (show kd (k + 12) = 13 from pk hk (j := 12) (by decide)) (by omega); rw [show k + 21 + 4 * r = k + 12 + (9 + 4 * r) by omega]; exact h)) ⟨va_cnB 0 hts (good_TW t_94) rfl rfl rfl (hC.2.1 _ t_92) (hts _ t_6) (by decide +kernel) ⟨by rw [hRf]; decide, by rw [hRl]; decide⟩, rfl, hts _ t_93⟩ ⟨Kp_blind, Kp_pre hC hA hz hB hS⟩ rfl rfl hl.1 rfl (lv_room (Nat.le_of_ble_eq_true rfl)) d_icPolicy_129 ⟨by rw [hRc]; show 20 + 4 * r + 1 + 3 ≤ 116; omega, by rw [hRs]; show 147 + 28 * r + 12 + 16 ≤ 819; omega⟩) hP hlt hD hS hz (by omega) (fun H locs hP hD hS hz => ?_)
    have hP := P_cat (X := poX cA b ad k (poF b k r)) hP (show k + 21 + 4 * r = k + 13 + (8 + 4 * r) by omega)
    have hD := D_cat (X := poX cA b ad k (poF b k r)) hD (show k + 21 + 4 * r = k + 13 + (8 + 4 * r) by omega)
    have hv : (poX cA b ad k (poF b k r) ++ wI cA b ad (List.range' (k + 13) (8 + 4 * r + 4)))[13 + (8 + 4 * r)]? = some (b + (k + 13 + (8 + 4 * r)), cS cA b ad Z0 (k + 13 + (8 + 4 * r))) := wx (X := poX cA b ad k (poF b k r)) (by omega)
    rw [show k + 13 + (8 + 4 * r) = k + 21 + 4 * r by omega] at hv
    have hk14 : kd (k + 21 + 4 * r) = 14 := by
      have h := ke_13 (j := r) (show kd (k + 12) = 13 from pk hk (j := 12) (by decide)) (by omega)
      rw [show k + 21 + 4 * r = k + 12 + (9 + 4 * r) by omega]
      exact h
    refine va_astq (a := b + (k + 12)) (v := b + (k + 21 + 4 * r)) hx hb hC.1 hP hD hS 12 5 (13 + (8 + 4 * r)) 5 (r := (rR5, rT5, 12)) (po_g12 _ _ _ _ _ _) rfl (wat hv (oz_14 hk14)) rfl (inbd_in (i := nI r) (n := 24) (inbN (by omega) (by omega))) d_icPolicy_132 (fun H locs hP hD hS => ?_)
    rw [nI_clamp (show r < 2 ^ 31 by omega), poF_up, po_set, show 8 + 4 * r + 4 = 8 + 4 * (r + 1) by omega] at hP hD
    refine kr_size (b := b) (n := (k + 21 + 4 * (r + 1))) (by omega) (by have h := P_lt (by omega) hP; omega) (fun hz => ?_)
    refine lv_iinc (v := nI (r + 1)) (lv' := [(1, .int (nI (r + 1))), (0, .ref (b + k))]) hx hb d_icPolicy_133 hl (k := 0) rfl (nI_succ r).symm (by decide) rfl (fun ls hl => ?_)
    refine lv_goto hx hb d_icPolicy_136 (tgt := 114) (by decide) ?_
    exact ih (r + 1) (by omega) H locs ls hP hD hS hz hl

