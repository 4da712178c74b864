abbrev y_icPolicy : MethodName := ({ cls := "TypeGuard$Policy", name := "<init>", desc := "()V" } : Jvm.MethodName)
theorem d_icPolicy_0 : decode prog_6_method_1_code 0 = .ok (.aload_n 0, 1) := by decide +kernel
theorem d_icPolicy_1 : decode prog_6_method_1_code 1 = .ok (.invokespecial 3, 3) := by decide +kernel
theorem d_icPolicy_4 : decode prog_6_method_1_code 4 = .ok (.aload_n 0, 1) := by decide +kernel
theorem d_icPolicy_5 : decode prog_6_method_1_code 5 = .ok (.new 9, 3) := by decide +kernel
theorem d_icPolicy_8 : decode prog_6_method_1_code 8 = .ok (.dup, 1) := by decide +kernel
theorem d_icPolicy_9 : decode prog_6_method_1_code 9 = .ok (.bipush 12, 2) := by decide +kernel
theorem d_icPolicy_11 : decode prog_6_method_1_code 11 = .ok (.invokespecial 11, 3) := by decide +kernel
theorem d_icPolicy_14 : decode prog_6_method_1_code 14 = .ok (.putfield 14, 3) := by decide +kernel
theorem d_icPolicy_17 : decode prog_6_method_1_code 17 = .ok (.aload_n 0, 1) := by decide +kernel
theorem d_icPolicy_18 : decode prog_6_method_1_code 18 = .ok (.new 9, 3) := by decide +kernel
theorem d_icPolicy_21 : decode prog_6_method_1_code 21 = .ok (.dup, 1) := by decide +kernel
theorem d_icPolicy_22 : decode prog_6_method_1_code 22 = .ok (.iconst 4, 1) := by decide +kernel
theorem d_icPolicy_23 : decode prog_6_method_1_code 23 = .ok (.invokespecial 11, 3) := by decide +kernel
theorem d_icPolicy_26 : decode prog_6_method_1_code 26 = .ok (.putfield 20, 3) := by decide +kernel
theorem d_icPolicy_29 : decode prog_6_method_1_code 29 = .ok (.aload_n 0, 1) := by decide +kernel
theorem d_icPolicy_30 : decode prog_6_method_1_code 30 = .ok (.new 9, 3) := by decide +kernel
theorem d_icPolicy_33 : decode prog_6_method_1_code 33 = .ok (.dup, 1) := by decide +kernel
theorem d_icPolicy_34 : decode prog_6_method_1_code 34 = .ok (.iconst 4, 1) := by decide +kernel
theorem d_icPolicy_35 : decode prog_6_method_1_code 35 = .ok (.invokespecial 11, 3) := by decide +kernel
theorem d_icPolicy_38 : decode prog_6_method_1_code 38 = .ok (.putfield 23, 3) := by decide +kernel
theorem d_icPolicy_41 : decode prog_6_method_1_code 41 = .ok (.aload_n 0, 1) := by decide +kernel
theorem d_icPolicy_42 : decode prog_6_method_1_code 42 = .ok (.new 9, 3) := by decide +kernel
theorem d_icPolicy_45 : decode prog_6_method_1_code 45 = .ok (.dup, 1) := by decide +kernel
theorem d_icPolicy_46 : decode prog_6_method_1_code 46 = .ok (.iconst 3, 1) := by decide +kernel
theorem d_icPolicy_47 : decode prog_6_method_1_code 47 = .ok (.invokespecial 11, 3) := by decide +kernel
theorem d_icPolicy_50 : decode prog_6_method_1_code 50 = .ok (.putfield 26, 3) := by decide +kernel
theorem d_icPolicy_53 : decode prog_6_method_1_code 53 = .ok (.aload_n 0, 1) := by decide +kernel
theorem d_icPolicy_54 : decode prog_6_method_1_code 54 = .ok (.iconst 4, 1) := by decide +kernel
theorem d_icPolicy_55 : decode prog_6_method_1_code 55 = .ok (.anewarray 9, 3) := by decide +kernel
theorem d_icPolicy_58 : decode prog_6_method_1_code 58 = .ok (.putfield 29, 3) := by decide +kernel
theorem d_icPolicy_61 : decode prog_6_method_1_code 61 = .ok (.aload_n 0, 1) := by decide +kernel
theorem d_icPolicy_62 : decode prog_6_method_1_code 62 = .ok (.iconst 4, 1) := by decide +kernel
theorem d_icPolicy_63 : decode prog_6_method_1_code 63 = .ok (.newarray .int, 2) := by decide +kernel
theorem d_icPolicy_65 : decode prog_6_method_1_code 65 = .ok (.putfield 33, 3) := by decide +kernel
theorem d_icPolicy_68 : decode prog_6_method_1_code 68 = .ok (.aload_n 0, 1) := by decide +kernel
theorem d_icPolicy_69 : decode prog_6_method_1_code 69 = .ok (.iconst 3, 1) := by decide +kernel
theorem d_icPolicy_70 : decode prog_6_method_1_code 70 = .ok (.newarray .boolean, 2) := by decide +kernel
theorem d_icPolicy_72 : decode prog_6_method_1_code 72 = .ok (.putfield 37, 3) := by decide +kernel
theorem d_icPolicy_75 : decode prog_6_method_1_code 75 = .ok (.aload_n 0, 1) := by decide +kernel
theorem d_icPolicy_76 : decode prog_6_method_1_code 76 = .ok (.bipush 24, 2) := by decide +kernel
theorem d_icPolicy_78 : decode prog_6_method_1_code 78 = .ok (.anewarray 41, 3) := by decide +kernel
theorem d_icPolicy_81 : decode prog_6_method_1_code 81 = .ok (.putfield 43, 3) := by decide +kernel
theorem d_icPolicy_84 : decode prog_6_method_1_code 84 = .ok (.iconst 0, 1) := by decide +kernel
theorem d_icPolicy_85 : decode prog_6_method_1_code 85 = .ok (.istore_n 1, 1) := by decide +kernel
theorem d_icPolicy_86 : decode prog_6_method_1_code 86 = .ok (.iload_n 1, 1) := by decide +kernel
theorem d_icPolicy_87 : decode prog_6_method_1_code 87 = .ok (.iconst 4, 1) := by decide +kernel
theorem d_icPolicy_88 : decode prog_6_method_1_code 88 = .ok (.if_icmp .ge 24, 3) := by decide +kernel
theorem d_icPolicy_91 : decode prog_6_method_1_code 91 = .ok (.aload_n 0, 1) := by decide +kernel
theorem d_icPolicy_92 : decode prog_6_method_1_code 92 = .ok (.getfield 29, 3) := by decide +kernel
theorem d_icPolicy_95 : decode prog_6_method_1_code 95 = .ok (.iload_n 1, 1) := by decide +kernel
theorem d_icPolicy_96 : decode prog_6_method_1_code 96 = .ok (.new 9, 3) := by decide +kernel
theorem d_icPolicy_99 : decode prog_6_method_1_code 99 = .ok (.dup, 1) := by decide +kernel
theorem d_icPolicy_100 : decode prog_6_method_1_code 100 = .ok (.bipush 8, 2) := by decide +kernel
theorem d_icPolicy_102 : decode prog_6_method_1_code 102 = .ok (.invokespecial 11, 3) := by decide +kernel
theorem d_icPolicy_105 : decode prog_6_method_1_code 105 = .ok (.aastore, 1) := by decide +kernel
theorem d_icPolicy_106 : decode prog_6_method_1_code 106 = .ok (.iinc 1 1, 3) := by decide +kernel
theorem d_icPolicy_109 : decode prog_6_method_1_code 109 = .ok (.goto (-23), 3) := by decide +kernel
theorem d_icPolicy_112 : decode prog_6_method_1_code 112 = .ok (.iconst 0, 1) := by decide +kernel
theorem d_icPolicy_113 : decode prog_6_method_1_code 113 = .ok (.istore_n 1, 1) := by decide +kernel
theorem d_icPolicy_114 : decode prog_6_method_1_code 114 = .ok (.iload_n 1, 1) := by decide +kernel
theorem d_icPolicy_115 : decode prog_6_method_1_code 115 = .ok (.bipush 24, 2) := by decide +kernel
theorem d_icPolicy_117 : decode prog_6_method_1_code 117 = .ok (.if_icmp .ge 22, 3) := by decide +kernel
theorem d_icPolicy_120 : decode prog_6_method_1_code 120 = .ok (.aload_n 0, 1) := by decide +kernel
theorem d_icPolicy_121 : decode prog_6_method_1_code 121 = .ok (.getfield 43, 3) := by decide +kernel
theorem d_icPolicy_124 : decode prog_6_method_1_code 124 = .ok (.iload_n 1, 1) := by decide +kernel
theorem d_icPolicy_125 : decode prog_6_method_1_code 125 = .ok (.new 41, 3) := by decide +kernel
theorem d_icPolicy_128 : decode prog_6_method_1_code 128 = .ok (.dup, 1) := by decide +kernel
theorem d_icPolicy_129 : decode prog_6_method_1_code 129 = .ok (.invokespecial 47, 3) := by decide +kernel
theorem d_icPolicy_132 : decode prog_6_method_1_code 132 = .ok (.aastore, 1) := by decide +kernel
theorem d_icPolicy_133 : decode prog_6_method_1_code 133 = .ok (.iinc 1 1, 3) := by decide +kernel
theorem d_icPolicy_136 : decode prog_6_method_1_code 136 = .ok (.goto (-22), 3) := by decide +kernel
theorem d_icPolicy_139 : decode prog_6_method_1_code 139 = .ok (.return_, 1) := by decide +kernel
def poF (b k r : Nat) : Nat → Option Nat := fun j => if j < r then some (b + (k + 12 + (9 + 4 * j))) else none
theorem poF_0 (b k : Nat) : poF b k 0 = fun _ => none := by
  funext j
  unfold poF
  rw [if_neg (Nat.not_lt_zero _)]
theorem poF_up (b k r : Nat) : va_up (poF b k r) r (some (b + (k + 21 + 4 * r))) = poF b k (r + 1) := by
  funext j
  unfold va_up poF
  by_cases h : j = r
  · rw [if_pos h, if_pos (by omega), h, show b + (k + 21 + 4 * r) = b + (k + 12 + (9 + 4 * r)) by omega]
  · rw [if_neg h]
    by_cases h2 : j < r
    · rw [if_pos h2, if_pos (by omega)]
    · rw [if_neg h2, if_neg (by omega)]
theorem inbN {j N : Nat} (h : j < N) (hN : N < 2 ^ 31) : inbd (nI j) N = true := by
  unfold inbd
  rw [Bool.and_eq_true, Bool.not_eq_true', decide_eq_false_iff_not, decide_eq_true_eq]
  exact ⟨nI_pos (by omega), by rw [nI_clamp (by omega)]; exact h⟩
section PLO
variable {D : va_G} {cA : Nat → ClassId} {b : Nat} {ad : Nat → Nat} {H : Heap}
theorem D_swap {A : Nat → Prop} {ws : va_W} {q a : Nat} {E E' : va_E} (h : va_D A ws) (hq : ws[q]? = some (a, E)) : va_D A (ws.set q (a, E')) := by
  have hl := (List.getElem?_eq_some_iff.mp hq).1
  have key : ∀ (i : Nat) (x : Nat × va_E), (ws.set q (a, E'))[i]? = some x → ∃ y : Nat × va_E, ws[i]? = some y ∧ y.1 = x.1 := by
    intro i x hx
    by_cases hi : i = q
    · subst hi
      rw [List.getElem?_set_self hl] at hx
      cases hx
      exact ⟨_, hq, rfl⟩
    · rw [List.getElem?_set_ne (Ne.symm hi)] at hx
      exact ⟨x, hx, rfl⟩
  refine ⟨fun i j x y hi hj hxy => ?_, fun i x hi => ?_⟩
  · obtain ⟨x', h1, h2⟩ := key i x hi
    obtain ⟨y', h3, h4⟩ := key j y hj
    exact h.1 i j x' y' h1 h3 (by rw [h2, h4]; exact hxy)
  · obtain ⟨x', h1, h2⟩ := key i x hi
    rw [← h2]
    exact h.2 i x' h1
theorem wx {X : va_W} {a m i : Nat} (hi : i < m) : (X ++ wI cA b ad (List.range' a m))[X.length + i]? = some (b + (a + i), cS cA b ad Z0 (a + i)) := by
  rw [List.getElem?_append_right (by omega), Nat.add_sub_cancel_left]
  unfold wI
  rw [List.getElem?_map, List.getElem?_range' hi, Nat.one_mul]
  rfl
end PLO
abbrev poX (cA : Nat → ClassId) (b : Nat) (ad : Nat → Nat) (k : Nat) (f : Nat → Option Nat) : va_W := [(b + k, .inr (3, [.ref (b + (k + 1)), .ref (b + (k + 3)), .ref (b + (k + 5)), .ref (b + (k + 7)), .ref (b + (k + 9)), .ref (b + (k + 10)), .ref (b + (k + 11)), .ref (b + (k + 12)), .int 0])), (b + (k + 1), cS cA b ad Z0 (k + 1)), (b + (k + 2), cS cA b ad Z0 (k + 2)), (b + (k + 3), cS cA b ad Z0 (k + 3)), (b + (k + 4), cS cA b ad Z0 (k + 4)), (b + (k + 5), cS cA b ad Z0 (k + 5)), (b + (k + 6), cS cA b ad Z0 (k + 6)), (b + (k + 7), cS cA b ad Z0 (k + 7)), (b + (k + 8), cS cA b ad Z0 (k + 8)), (b + (k + 9), cS cA b ad Z0 (k + 9)), (b + (k + 10), cS cA b ad Z0 (k + 10)), (b + (k + 11), cS cA b ad Z0 (k + 11)), (b + (k + 12), .inl (cA 5, 24, .inr (.inr (.inr (.inr f)))))]
theorem po_set (cA : Nat → ClassId) (b : Nat) (ad : Nat → Nat) (k : Nat) (f g : Nat → Option Nat) (Y : va_W) : (poX cA b ad k f ++ Y).set 12 (b + (k + 12), .inl (cA 5, 24, .inr (.inr (.inr (.inr g))))) = poX cA b ad k g ++ Y := rfl
theorem po_fin (cA : Nat → ClassId) (b : Nat) (ad : Nat → Nat) (k : Nat) (f : Nat → Option Nat) (Y : va_W) : (poX cA b ad k f ++ Y).set 12 (b + (k + 12), cS cA b ad Z0 (k + 12)) = [(b + k, .inr (3, [.ref (b + (k + 1)), .ref (b + (k + 3)), .ref (b + (k + 5)), .ref (b + (k + 7)), .ref (b + (k + 9)), .ref (b + (k + 10)), .ref (b + (k + 11)), .ref (b + (k + 12)), .int 0])), (b + (k + 1), cS cA b ad Z0 (k + 1)), (b + (k + 2), cS cA b ad Z0 (k + 2)), (b + (k + 3), cS cA b ad Z0 (k + 3)), (b + (k + 4), cS cA b ad Z0 (k + 4)), (b + (k + 5), cS cA b ad Z0 (k + 5)), (b + (k + 6), cS cA b ad Z0 (k + 6)), (b + (k + 7), cS cA b ad Z0 (k + 7)), (b + (k + 8), cS cA b ad Z0 (k + 8)), (b + (k + 9), cS cA b ad Z0 (k + 9)), (b + (k + 10), cS cA b ad Z0 (k + 10)), (b + (k + 11), cS cA b ad Z0 (k + 11)), (b + (k + 12), cS cA b ad Z0 (k + 12))] ++ Y := rfl
theorem po_all (cA : Nat → ClassId) (b : Nat) (ad : Nat → Nat) (k : Nat) : ([(b + k, cS cA b ad Z0 k), (b + (k + 1), cS cA b ad Z0 (k + 1)), (b + (k + 2), cS cA b ad Z0 (k + 2)), (b + (k + 3), cS cA b ad Z0 (k + 3)), (b + (k + 4), cS cA b ad Z0 (k + 4)), (b + (k + 5), cS cA b ad Z0 (k + 5)), (b + (k + 6), cS cA b ad Z0 (k + 6)), (b + (k + 7), cS cA b ad Z0 (k + 7)), (b + (k + 8), cS cA b ad Z0 (k + 8)), (b + (k + 9), cS cA b ad Z0 (k + 9)), (b + (k + 10), cS cA b ad Z0 (k + 10)), (b + (k + 11), cS cA b ad Z0 (k + 11)), (b + (k + 12), cS cA b ad Z0 (k + 12))]) = wI cA b ad (List.range' k 13) := rfl
theorem po_get (cA : Nat → ClassId) (b : Nat) (ad : Nat → Nat) (k : Nat) (f : Nat → Option Nat) (Y : va_W) : (poX cA b ad k f ++ Y)[0]? = some (b + k, .inr (3, [.ref (b + (k + 1)), .ref (b + (k + 3)), .ref (b + (k + 5)), .ref (b + (k + 7)), .ref (b + (k + 9)), .ref (b + (k + 10)), .ref (b + (k + 11)), .ref (b + (k + 12)), .int 0])) := rfl
theorem po_g12 (cA : Nat → ClassId) (b : Nat) (ad : Nat → Nat) (k : Nat) (f : Nat → Option Nat) (Y : va_W) : (poX cA b ad k f ++ Y)[12]? = some (b + (k + 12), .inl (cA 5, 24, .inr (.inr (.inr (.inr f))))) := rfl
