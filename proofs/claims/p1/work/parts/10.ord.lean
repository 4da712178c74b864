abbrev y_ord : MethodName := ({ cls := "java/lang/Enum", name := "ordinal", desc := "()I" } : Jvm.MethodName)
abbrev y_ordW : MethodName := ({ cls := "TypeGuard$Word", name := "ordinal", desc := "()I" } : Jvm.MethodName)
theorem d_ord_0 : decode prog_16_method_2_code 0 = .ok (.aload_n 0, 1) := by decide +kernel
theorem d_ord_1 : decode prog_16_method_2_code 1 = .ok (.getfield 7, 3) := by decide +kernel
theorem d_ord_4 : decode prog_16_method_2_code 4 = .ok (.ireturn, 1) := by decide +kernel
theorem or_nI {i : Nat} (hi : i < 15) : orL.getD i 0 = nI i := co_dec (N := 15) (P := fun i => orL.getD i 0 = nI i) (by decide +kernel) hi
theorem M_ord {l : Launch} {D : va_G} {cA : Nat → ClassId} {b : Nat} {ad : Nat → Nat} {S : ST} {w : Nat} (hw : w < 15) : Met l y_ord (Cond.code y_ord prog_16_method_2_code 1 (some .int) :: TW) { frames := 0, cells := 0, slots := 0, locals := 0 } (va_Pc [.ref (ad w)] (Rp D cA b ad S)) (Qr D cA b ad S (some (.int (nI w)))) 0 0 (Ab b) := by
  refine Ct_of (by decide) (Nat.le_of_ble_eq_true rfl) ?_
  intro p e R s m args below meth c ls Q H locs hR hQ hx hb hts hown hml hr hlk hC hX hS hl
  have hl : lv_has ls 1 [(0, .ref (ad w))] := hl
  refine lv_aload_n hx hb d_ord_0 rfl (lv_at hl 0 rfl) ?_
  refine va_getE (q := ("java/lang/Enum", "ordinal", "I", orL)) hx hb hC.2.2.2.1.1 hw hS hown (List.mem_singleton.mpr rfl) (hts _ t_1396) (fun _ h9 => h9) d_ord_1 ?_
  refine lt_I (or_nI hw).symm ?_
  exact rt_i hQ hx hb hr hX hS hlk d_ord_4
section ORD
variable {p : Program} {l : Launch} {e : Env} {R : Room} {s : State} {m : MethodId} {args : Array Value} {below : List Frame} {meth : Method} {c : Code} {H : Heap} {locs : List Loc} {Q : State → Prop}
variable {cc : ByteArray} {pc : Nat} {ls : Array Slot} {D : va_G} {cA : Nat → ClassId} {b : Nat} {ad : Nat → Nat}
theorem jd_ord {own : String} {index nL w : Nat} {S : ST} {rest : List Value} (hl : Cond.methodLink own index y_ordW ∈ TW)
    (hx : p.tables.exec = Jvm.exec) (hb : c.code = cc) (hts : ∀ w ∈ TW, w.before args s = true) (hown : s.vm.findClass own = some m.cls) (hC : Cx D cA b ad s) (hX : hp D cA b ad S H) (hS : va_S (Ab b) s.heap H locs)
    (hml : c.maxLocals = nL) (hsz : ls.size = nL) (hR : 1 ≤ R.frames ∧ 20 ≤ R.locals) (hw : w < 15) (hroom : 2 * (F0 m pc ls (.ref (ad w) :: rest)).monitorRoom + (rest.map fun v => v.category).sum ≤ 8) (hdg : decode cc pc = .ok (.invokevirtual index, 3))
    (kk : ∀ (H : Heap) (locs : List Loc), hp D cA b ad S H → va_S (Ab b) s.heap H locs → W p l e R s m args below meth c H locs 0 0 Q (F0 m (pc + 3) ls (.int (nI w) :: rest))) : W p l e R s m args below meth c H locs 0 0 Q (F0 m pc ls (.ref (ad w) :: rest)) := by
  have hG : GoodIn TW (va_wsU own index "TypeGuard$Word" "java/lang/Enum" y_ordW y_ord (Cond.code y_ord prog_16_method_2_code 1 (some .int) :: TW)) := by
    intro v hv
    have hm : v ∈ TW := by
      unfold va_wsU at hv
      rcases List.mem_append.mp hv with h | h
      · simp only [List.mem_cons, List.not_mem_nil, or_false] at h
        rcases h with rfl | rfl | rfl | rfl | rfl
        · exact hl
        · exact t_670
        · exact t_672
        · exact t_673
        · exact t_7
      · rcases List.mem_cons.mp h with rfl | h
        · exact t_674
        · exact h
    exact ⟨hm, good_of_word (List.mem_filter.mp hm).2⟩
  exact ck_go (va_runU (As := []) (n := 0) ⟨hx, hb, hml, hown, hts⟩ (M_ord hw) (va_cwU 0 hts hG rfl rfl rfl rfl (by decide +kernel) hR) ⟨Rp_blind, hrc_w hC hS hw, Rp_pre hC hX hS⟩ rfl rfl hsz rfl hroom hdg ⟨Nat.zero_le _, Nat.zero_le _⟩) hS rfl kk
end ORD
