def f_X5_beginScript (a0_state : Int) (a0_script : Int) (a0_isBound : Int) (a0_result_size : Int) (a0_result_marksF : (Nat → Int)) (x1 : Int) : Option (Int × Int × Int × Int × (Nat → Int)) := jn (fun (z2 : Int) => gB z2 (bd (f_X3_add 360 a0_result_size a0_result_marksF x1) (fun r3 => some (2, x1, z2, r3.1, r3.2)))) (fun k1 => cEq a0_state 1 (k1 1) (k1 0))
set_option maxRecDepth 100000 in
set_option maxHeartbeats 4000000 in
theorem k_X5_beginScript {D : va_G} {cs : q_CS} {a0 a0_signs a0_result a0_stack a0_result_marks : Nat} {a0_length a0_top a0_state a0_bracket a0_chain a0_factor a0_isUnder a0_isPlain a0_script a0_isBound a0_result_size : Int} {a0_result_marksF : (Nat → Int)} {x1 : Int} {r : (Int × Int × Int × Int × (Nat → Int))} (h : f_X5_beginScript a0_state a0_script a0_isBound a0_result_size a0_result_marksF x1 = some r) : q_M D cs yX5_beginScript cX5_beginScript 2 none 1 21 [.ref a0, .int (iI x1)] [(a0, .inr (5, [.ref a0_signs, .int (iI a0_length), .ref a0_result, .ref a0_stack, .int (iI a0_top), .int (iI a0_state), .int (iI a0_bracket), .int (iI a0_chain), .int (iI a0_factor), .int (iI a0_isUnder), .int (iI a0_isPlain), .int (iI a0_script), .int (iI a0_isBound)])), (a0_result, .inr (3, [.ref a0_result_marks, .int (iI a0_result_size)])), (a0_result_marks, .inl (cs.1, 360, .inl (aI a0_result_marksF)))] none [(a0, .inr (5, [.ref a0_signs, .int (iI a0_length), .ref a0_result, .ref a0_stack, .int (iI a0_top), .int (iI r.1), .int (iI a0_bracket), .int (iI a0_chain), .int (iI a0_factor), .int (iI a0_isUnder), .int (iI a0_isPlain), .int (iI r.2.1), .int (iI r.2.2.1)])), (a0_result, .inr (3, [.ref a0_result_marks, .int (iI r.2.2.2.1)])), (a0_result_marks, .inl (cs.1, 360, .inl (aI r.2.2.2.2)))] := by
  refine q_start_v [(0, .ref a0), (1, .int (iI x1))] RX5 rfl (by decide +kernel) rfl (Nat.le_of_ble_eq_true rfl) (fun κ ok fin => ?_)
  unfold f_X5_beginScript at h
  refine j_aload_n (pc := 0) 0 ok dX5_beginScript_0 rfl rfl ?_
  refine j_aload_n (pc := 1) 0 ok dX5_beginScript_1 rfl rfl ?_
  refine gf_X5_41_5 (pc := 2) 0 ok rfl dX5_beginScript_2 ?_
  refine j_iconst (pc := 5) ok dX5_beginScript_5 ?_
  refine jn_use (P := fun z2 => q_J D κ 2 0 0 [(a0, .inr (5, [.ref a0_signs, .int (iI a0_length), .ref a0_result, .ref a0_stack, .int (iI a0_top), .int (iI a0_state), .int (iI a0_bracket), .int (iI a0_chain), .int (iI a0_factor), .int (iI a0_isUnder), .int (iI a0_isPlain), .int (iI a0_script), .int (iI a0_isBound)])), (a0_result, .inr (3, [.ref a0_result_marks, .int (iI a0_result_size)])), (a0_result_marks, .inl (cs.1, 360, .inl (aI a0_result_marksF)))] [(0, .ref a0), (1, .int (iI x1))] 14 [.int (iI z2), .ref a0]) h (fun z2 h => ?_) (fun k1 hk1 h => ?_)
  · refine pf_X5_72_5 (pc := 14) 0 ok rfl dX5_beginScript_14 h [(a0, .inr (5, [.ref a0_signs, .int (iI a0_length), .ref a0_result, .ref a0_stack, .int (iI a0_top), .int (iI a0_state), .int (iI a0_bracket), .int (iI a0_chain), .int (iI a0_factor), .int (iI a0_isUnder), .int (iI a0_isPlain), .int (iI a0_script), .int (iI z2)])), (a0_result, .inr (3, [.ref a0_result_marks, .int (iI a0_result_size)])), (a0_result_marks, .inl (cs.1, 360, .inl (aI a0_result_marksF)))] rfl (fun h => ?_)
    refine j_aload_n (pc := 17) 0 ok dX5_beginScript_17 rfl rfl ?_
    refine j_iload_n (pc := 18) 1 ok dX5_beginScript_18 rfl rfl ?_
    refine pf_X5_69_5 (pc := 19) 0 ok rfl dX5_beginScript_19 [(a0, .inr (5, [.ref a0_signs, .int (iI a0_length), .ref a0_result, .ref a0_stack, .int (iI a0_top), .int (iI a0_state), .int (iI a0_bracket), .int (iI a0_chain), .int (iI a0_factor), .int (iI a0_isUnder), .int (iI a0_isPlain), .int (iI x1), .int (iI z2)])), (a0_result, .inr (3, [.ref a0_result_marks, .int (iI a0_result_size)])), (a0_result_marks, .inl (cs.1, 360, .inl (aI a0_result_marksF)))] rfl ?_
    refine j_aload_n (pc := 22) 0 ok dX5_beginScript_22 rfl rfl ?_
    refine gf_X5_20_5 (pc := 23) 0 ok rfl dX5_beginScript_23 ?_
    refine j_iload_n (pc := 26) 1 ok dX5_beginScript_26 rfl rfl ?_
    obtain ⟨r3, hr3, h⟩ := bd_inv h
    refine j_callV (pc := 27) ok (k_X3_add (a0 := a0_result) (a0_marks := a0_result_marks) (a0_ci := 3) (a0_fx := []) (a0_marksN := 360) (a0_size := a0_result_size) (a0_marksF := a0_result_marksF) (x1 := x1) q_mk3 hr3) gV_X5_94 ⟨rfl, hd_X3_add⟩ [1, 2] (by decide) rfl rfl 1 rfl rfl rfl rfl ⟨Nat.zero_le _, Nat.zero_le _⟩ (Nat.le_of_ble_eq_true rfl) dX5_beginScript_27 rfl [(a0, .inr (5, [.ref a0_signs, .int (iI a0_length), .ref a0_result, .ref a0_stack, .int (iI a0_top), .int (iI a0_state), .int (iI a0_bracket), .int (iI a0_chain), .int (iI a0_factor), .int (iI a0_isUnder), .int (iI a0_isPlain), .int (iI x1), .int (iI z2)])), (a0_result, .inr (3, [.ref a0_result_marks, .int (iI r3.1)])), (a0_result_marks, .inl (cs.1, 360, .inl (aI r3.2)))] rfl ?_
    refine j_aload_n (pc := 30) 0 ok dX5_beginScript_30 rfl rfl ?_
    refine j_iconst (pc := 31) ok dX5_beginScript_31 ?_
    refine pf_X5_41_5 (pc := 32) 0 ok rfl dX5_beginScript_32 [(a0, .inr (5, [.ref a0_signs, .int (iI a0_length), .ref a0_result, .ref a0_stack, .int (iI a0_top), .int (iI 2), .int (iI a0_bracket), .int (iI a0_chain), .int (iI a0_factor), .int (iI a0_isUnder), .int (iI a0_isPlain), .int (iI x1), .int (iI z2)])), (a0_result, .inr (3, [.ref a0_result_marks, .int (iI r3.1)])), (a0_result_marks, .inl (cs.1, 360, .inl (aI r3.2)))] rfl ?_
    obtain rfl := Option.some.inj h
    exact fin _ 35 dX5_beginScript_35
  · refine j_icmp_ne (pc := 6) 13 ok dX5_beginScript_6 (by decide) h (fun h => ?_) (fun h => ?_)
    · refine j_iconst (pc := 13) ok dX5_beginScript_13 ?_
      exact hk1 0 h
    · refine j_iconst (pc := 9) ok dX5_beginScript_9 ?_
      refine j_goto (pc := 10) 14 ok dX5_beginScript_10 (by decide) ?_
      exact hk1 1 h
def f_X5_endOperand (a0_factor : Int) (a0_isUnder : Int) (a0_isPlain : Int) (a0_result_size : Int) (a0_result_marksF : (Nat → Int)) : Option (Int × Int × Int × (Nat → Int)) := jn (fun (z4 : Int × Int × (Nat → Int)) => jn (fun (z7 : Int × Int × (Nat → Int)) => some (z7.1, z4.1, z7.2.1, z7.2.2)) (fun k5 => cEq a0_isUnder 0 (k5 (a0_isUnder, z4.2.1, z4.2.2)) (bd (f_X3_add 360 z4.2.1 z4.2.2 11) (fun r6 => gB 0 (k5 (0, r6.1, r6.2)))))) (fun k1 => cEq a0_isPlain 0 (k1 (a0_isPlain, a0_result_size, a0_result_marksF)) (bd (f_X3_remove 360 a0_result_size a0_result_marksF (a0_result_size - 1) a0_result_size) (fun r2 => bd (f_X3_remove 360 r2.1 r2.2 a0_factor (a0_factor + 1)) (fun r3 => gB 0 (k1 (0, r3.1, r3.2))))))
set_option maxRecDepth 100000 in
set_option maxHeartbeats 4000000 in
theorem k_X5_endOperand {D : va_G} {cs : q_CS} {a0 a0_signs a0_result a0_stack a0_result_marks : Nat} {a0_length a0_top a0_state a0_bracket a0_chain a0_factor a0_isUnder a0_isPlain a0_script a0_isBound a0_result_size : Int} {a0_result_marksF : (Nat → Int)} {r : (Int × Int × Int × (Nat → Int))} (h : f_X5_endOperand a0_factor a0_isUnder a0_isPlain a0_result_size a0_result_marksF = some r) : q_M D cs yX5_endOperand cX5_endOperand 1 none 2 40 [.ref a0] [(a0, .inr (5, [.ref a0_signs, .int (iI a0_length), .ref a0_result, .ref a0_stack, .int (iI a0_top), .int (iI a0_state), .int (iI a0_bracket), .int (iI a0_chain), .int (iI a0_factor), .int (iI a0_isUnder), .int (iI a0_isPlain), .int (iI a0_script), .int (iI a0_isBound)])), (a0_result, .inr (3, [.ref a0_result_marks, .int (iI a0_result_size)])), (a0_result_marks, .inl (cs.1, 360, .inl (aI a0_result_marksF)))] none [(a0, .inr (5, [.ref a0_signs, .int (iI a0_length), .ref a0_result, .ref a0_stack, .int (iI a0_top), .int (iI a0_state), .int (iI a0_bracket), .int (iI a0_chain), .int (iI a0_factor), .int (iI r.1), .int (iI r.2.1), .int (iI a0_script), .int (iI a0_isBound)])), (a0_result, .inr (3, [.ref a0_result_marks, .int (iI r.2.2.1)])), (a0_result_marks, .inl (cs.1, 360, .inl (aI r.2.2.2)))] := by
  refine q_start_v [(0, .ref a0)] RX5 rfl (by decide +kernel) rfl (Nat.le_of_ble_eq_true rfl) (fun κ ok fin => ?_)
  unfold f_X5_endOperand at h
  refine j_aload_n (pc := 0) 0 ok dX5_endOperand_0 rfl rfl ?_
  refine gf_X5_66_5 (pc := 1) 0 ok rfl dX5_endOperand_1 ?_
  refine jn_use (P := fun z4 => q_J D κ 1 0 0 [(a0, .inr (5, [.ref a0_signs, .int (iI a0_length), .ref a0_result, .ref a0_stack, .int (iI a0_top), .int (iI a0_state), .int (iI a0_bracket), .int (iI a0_chain), .int (iI a0_factor), .int (iI a0_isUnder), .int (iI z4.1), .int (iI a0_script), .int (iI a0_isBound)])), (a0_result, .inr (3, [.ref a0_result_marks, .int (iI z4.2.1)])), (a0_result_marks, .inl (cs.1, 360, .inl (aI z4.2.2)))] [(0, .ref a0)] 52 []) h (fun z4 h => ?_) (fun k1 hk1 h => ?_)
  · refine j_aload_n (pc := 52) 0 ok dX5_endOperand_52 rfl rfl ?_
    refine gf_X5_62_5 (pc := 53) 0 ok rfl dX5_endOperand_53 ?_
    refine jn_use (P := fun z7 => q_J D κ 1 0 0 [(a0, .inr (5, [.ref a0_signs, .int (iI a0_length), .ref a0_result, .ref a0_stack, .int (iI a0_top), .int (iI a0_state), .int (iI a0_bracket), .int (iI a0_chain), .int (iI a0_factor), .int (iI z7.1), .int (iI z4.1), .int (iI a0_script), .int (iI a0_isBound)])), (a0_result, .inr (3, [.ref a0_result_marks, .int (iI z7.2.1)])), (a0_result_marks, .inl (cs.1, 360, .inl (aI z7.2.2)))] [] 73 []) h (fun z7 h => ?_) (fun k5 hk5 h => ?_)
    · obtain rfl := Option.some.inj h
      exact fin _ 73 dX5_endOperand_73
    · refine j_if_eq (pc := 56) 73 ok dX5_endOperand_56 (by decide) h (fun h => ?_) (fun h => ?_)
      · refine j_lv [] rfl ?_
        exact hk5 (a0_isUnder, z4.2.1, z4.2.2) h
      · refine j_aload_n (pc := 59) 0 ok dX5_endOperand_59 rfl rfl ?_
        refine gf_X5_20_5 (pc := 60) 0 ok rfl dX5_endOperand_60 ?_
        refine j_bipush (pc := 63) ok dX5_endOperand_63 (by decide) ?_
        obtain ⟨r6, hr6, h⟩ := bd_inv h
        refine j_callV (pc := 65) ok (k_X3_add (a0 := a0_result) (a0_marks := a0_result_marks) (a0_ci := 3) (a0_fx := []) (a0_marksN := 360) (a0_size := z4.2.1) (a0_marksF := z4.2.2) (x1 := 11) q_mk3 hr6) gV_X5_94 ⟨rfl, hd_X3_add⟩ [1, 2] (by decide) rfl rfl 1 rfl rfl rfl rfl ⟨Nat.zero_le _, Nat.zero_le _⟩ (Nat.le_of_ble_eq_true rfl) dX5_endOperand_65 rfl [(a0, .inr (5, [.ref a0_signs, .int (iI a0_length), .ref a0_result, .ref a0_stack, .int (iI a0_top), .int (iI a0_state), .int (iI a0_bracket), .int (iI a0_chain), .int (iI a0_factor), .int (iI a0_isUnder), .int (iI z4.1), .int (iI a0_script), .int (iI a0_isBound)])), (a0_result, .inr (3, [.ref a0_result_marks, .int (iI r6.1)])), (a0_result_marks, .inl (cs.1, 360, .inl (aI r6.2)))] rfl ?_
        refine j_aload_n (pc := 68) 0 ok dX5_endOperand_68 rfl rfl ?_
        refine j_iconst (pc := 69) ok dX5_endOperand_69 ?_
        refine pf_X5_62_5 (pc := 70) 0 ok rfl dX5_endOperand_70 h [(a0, .inr (5, [.ref a0_signs, .int (iI a0_length), .ref a0_result, .ref a0_stack, .int (iI a0_top), .int (iI a0_state), .int (iI a0_bracket), .int (iI a0_chain), .int (iI a0_factor), .int (iI 0), .int (iI z4.1), .int (iI a0_script), .int (iI a0_isBound)])), (a0_result, .inr (3, [.ref a0_result_marks, .int (iI r6.1)])), (a0_result_marks, .inl (cs.1, 360, .inl (aI r6.2)))] rfl (fun h => ?_)
        refine j_lv [] rfl ?_
        exact hk5 (0, r6.1, r6.2) h
  · refine j_if_eq (pc := 4) 52 ok dX5_endOperand_4 (by decide) h (fun h => ?_) (fun h => ?_)
    · exact hk1 (a0_isPlain, a0_result_size, a0_result_marksF) h
    · refine j_aload_n (pc := 7) 0 ok dX5_endOperand_7 rfl rfl ?_
      refine gf_X5_20_5 (pc := 8) 0 ok rfl dX5_endOperand_8 ?_
      refine j_aload_n (pc := 11) 0 ok dX5_endOperand_11 rfl rfl ?_
      refine gf_X5_20_5 (pc := 12) 0 ok rfl dX5_endOperand_12 ?_
      refine gf_X5_47_3 (pc := 15) 1 ok rfl dX5_endOperand_15 ?_
      refine j_iconst (pc := 18) ok dX5_endOperand_18 ?_
      refine j_isub (pc := 19) ok dX5_endOperand_19 ?_
      refine j_aload_n (pc := 20) 0 ok dX5_endOperand_20 rfl rfl ?_
      refine gf_X5_20_5 (pc := 21) 0 ok rfl dX5_endOperand_21 ?_
      refine gf_X5_47_3 (pc := 24) 1 ok rfl dX5_endOperand_24 ?_
      obtain ⟨r2, hr2, h⟩ := bd_inv h
      refine j_callV (pc := 27) ok (k_X3_remove (a0 := a0_result) (a0_marks := a0_result_marks) (a0_ci := 3) (a0_fx := []) (a0_marksN := 360) (a0_size := a0_result_size) (a0_marksF := a0_result_marksF) (x1 := a0_result_size - 1) (x2 := a0_result_size) q_mk3 hr2) gV_X5_117 ⟨rfl, hd_X3_remove⟩ [1, 2] (by decide) rfl rfl 1 rfl rfl rfl rfl ⟨Nat.zero_le _, Nat.zero_le _⟩ (Nat.le_of_ble_eq_true rfl) dX5_endOperand_27 rfl [(a0, .inr (5, [.ref a0_signs, .int (iI a0_length), .ref a0_result, .ref a0_stack, .int (iI a0_top), .int (iI a0_state), .int (iI a0_bracket), .int (iI a0_chain), .int (iI a0_factor), .int (iI a0_isUnder), .int (iI a0_isPlain), .int (iI a0_script), .int (iI a0_isBound)])), (a0_result, .inr (3, [.ref a0_result_marks, .int (iI r2.1)])), (a0_result_marks, .inl (cs.1, 360, .inl (aI r2.2)))] rfl ?_
      refine j_aload_n (pc := 30) 0 ok dX5_endOperand_30 rfl rfl ?_
      refine gf_X5_20_5 (pc := 31) 0 ok rfl dX5_endOperand_31 ?_
      refine j_aload_n (pc := 34) 0 ok dX5_endOperand_34 rfl rfl ?_
      refine gf_X5_59_5 (pc := 35) 0 ok rfl dX5_endOperand_35 ?_
      refine j_aload_n (pc := 38) 0 ok dX5_endOperand_38 rfl rfl ?_
      refine gf_X5_59_5 (pc := 39) 0 ok rfl dX5_endOperand_39 ?_
      refine j_iconst (pc := 42) ok dX5_endOperand_42 ?_
      refine j_iadd (pc := 43) ok dX5_endOperand_43 ?_
      obtain ⟨r3, hr3, h⟩ := bd_inv h
      refine j_callV (pc := 44) ok (k_X3_remove (a0 := a0_result) (a0_marks := a0_result_marks) (a0_ci := 3) (a0_fx := []) (a0_marksN := 360) (a0_size := r2.1) (a0_marksF := r2.2) (x1 := a0_factor) (x2 := a0_factor + 1) q_mk3 hr3) gV_X5_117 ⟨rfl, hd_X3_remove⟩ [1, 2] (by decide) rfl rfl 1 rfl rfl rfl rfl ⟨Nat.zero_le _, Nat.zero_le _⟩ (Nat.le_of_ble_eq_true rfl) dX5_endOperand_44 rfl [(a0, .inr (5, [.ref a0_signs, .int (iI a0_length), .ref a0_result, .ref a0_stack, .int (iI a0_top), .int (iI a0_state), .int (iI a0_bracket), .int (iI a0_chain), .int (iI a0_factor), .int (iI a0_isUnder), .int (iI a0_isPlain), .int (iI a0_script), .int (iI a0_isBound)])), (a0_result, .inr (3, [.ref a0_result_marks, .int (iI r3.1)])), (a0_result_marks, .inl (cs.1, 360, .inl (aI r3.2)))] rfl ?_
      refine j_aload_n (pc := 47) 0 ok dX5_endOperand_47 rfl rfl ?_
      refine j_iconst (pc := 48) ok dX5_endOperand_48 ?_
      refine pf_X5_66_5 (pc := 49) 0 ok rfl dX5_endOperand_49 h [(a0, .inr (5, [.ref a0_signs, .int (iI a0_length), .ref a0_result, .ref a0_stack, .int (iI a0_top), .int (iI a0_state), .int (iI a0_bracket), .int (iI a0_chain), .int (iI a0_factor), .int (iI a0_isUnder), .int (iI 0), .int (iI a0_script), .int (iI a0_isBound)])), (a0_result, .inr (3, [.ref a0_result_marks, .int (iI r3.1)])), (a0_result_marks, .inl (cs.1, 360, .inl (aI r3.2)))] rfl (fun h => ?_)
      exact hk1 (0, r3.1, r3.2) h
def f_X5_takesDivision (a0_state : Int) (a0_chain : Int) (a0_factor : Int) (a0_isUnder : Int) (a0_isPlain : Int) (a0_result_size : Int) (a0_result_marksF : (Nat → Int)) : Option (Int × Int × Int × Int × Int × Int × (Nat → Int)) := cEq a0_state 1 (bd (f_X5_endOperand a0_factor a0_isUnder a0_isPlain a0_result_size a0_result_marksF) (fun r1 => bd (f_X3_insert 360 r1.2.2.1 r1.2.2.2 a0_chain 1) (fun r2 => bd (f_X3_add 360 r2.1 r2.2 6) (fun r3 => gB 1 (gB 1 (some (1, 2, r3.1, 1, r1.2.1, r3.1, r3.2))))))) (gB 0 (some (0, a0_state, a0_factor, a0_isUnder, a0_isPlain, a0_result_size, a0_result_marksF)))
set_option maxRecDepth 100000 in
set_option maxHeartbeats 4000000 in
theorem k_X5_takesDivision {D : va_G} {cs : q_CS} {a0 a0_signs a0_result a0_stack a0_result_marks : Nat} {a0_length a0_top a0_state a0_bracket a0_chain a0_factor a0_isUnder a0_isPlain a0_script a0_isBound a0_result_size : Int} {a0_result_marksF : (Nat → Int)} {r : (Int × Int × Int × Int × Int × Int × (Nat → Int))} (h : f_X5_takesDivision a0_state a0_chain a0_factor a0_isUnder a0_isPlain a0_result_size a0_result_marksF = some r) : q_M D cs yX5_takesDivision cX5_takesDivision 1 (some .boolean) 3 60 [.ref a0] [(a0, .inr (5, [.ref a0_signs, .int (iI a0_length), .ref a0_result, .ref a0_stack, .int (iI a0_top), .int (iI a0_state), .int (iI a0_bracket), .int (iI a0_chain), .int (iI a0_factor), .int (iI a0_isUnder), .int (iI a0_isPlain), .int (iI a0_script), .int (iI a0_isBound)])), (a0_result, .inr (3, [.ref a0_result_marks, .int (iI a0_result_size)])), (a0_result_marks, .inl (cs.1, 360, .inl (aI a0_result_marksF)))] (some (.int (iI r.1))) [(a0, .inr (5, [.ref a0_signs, .int (iI a0_length), .ref a0_result, .ref a0_stack, .int (iI a0_top), .int (iI r.2.1), .int (iI a0_bracket), .int (iI a0_chain), .int (iI r.2.2.1), .int (iI r.2.2.2.1), .int (iI r.2.2.2.2.1), .int (iI a0_script), .int (iI a0_isBound)])), (a0_result, .inr (3, [.ref a0_result_marks, .int (iI r.2.2.2.2.2.1)])), (a0_result_marks, .inl (cs.1, 360, .inl (aI r.2.2.2.2.2.2)))] := by
  refine q_start_z [(0, .ref a0)] RX5 rfl (by decide +kernel) rfl (Nat.le_of_ble_eq_true rfl) (fun κ ok fin => ?_)
  unfold f_X5_takesDivision at h
  refine j_aload_n (pc := 0) 0 ok dX5_takesDivision_0 rfl rfl ?_
  refine gf_X5_41_5 (pc := 1) 0 ok rfl dX5_takesDivision_1 ?_
  refine j_iconst (pc := 4) ok dX5_takesDivision_4 ?_
  refine j_icmp_eq (pc := 5) 10 ok dX5_takesDivision_5 (by decide) h (fun h => ?_) (fun h => ?_)
  · refine j_aload_n (pc := 10) 0 ok dX5_takesDivision_10 rfl rfl ?_
    obtain ⟨r1, hr1, h⟩ := bd_inv h
    refine j_callV (pc := 11) ok (k_X5_endOperand (a0 := a0) (a0_signs := a0_signs) (a0_result := a0_result) (a0_stack := a0_stack) (a0_result_marks := a0_result_marks) (a0_length := a0_length) (a0_top := a0_top) (a0_state := a0_state) (a0_bracket := a0_bracket) (a0_chain := a0_chain) (a0_factor := a0_factor) (a0_isUnder := a0_isUnder) (a0_isPlain := a0_isPlain) (a0_script := a0_script) (a0_isBound := a0_isBound) (a0_result_size := a0_result_size) (a0_result_marksF := a0_result_marksF) hr1) gV_X5_110 ⟨rfl, hd_X5_endOperand⟩ [0, 1, 2] (by decide) rfl rfl 0 rfl rfl rfl rfl ⟨Nat.zero_le _, Nat.zero_le _⟩ (Nat.le_of_ble_eq_true rfl) dX5_takesDivision_11 rfl [(a0, .inr (5, [.ref a0_signs, .int (iI a0_length), .ref a0_result, .ref a0_stack, .int (iI a0_top), .int (iI a0_state), .int (iI a0_bracket), .int (iI a0_chain), .int (iI a0_factor), .int (iI r1.1), .int (iI r1.2.1), .int (iI a0_script), .int (iI a0_isBound)])), (a0_result, .inr (3, [.ref a0_result_marks, .int (iI r1.2.2.1)])), (a0_result_marks, .inl (cs.1, 360, .inl (aI r1.2.2.2)))] rfl ?_
    refine j_aload_n (pc := 14) 0 ok dX5_takesDivision_14 rfl rfl ?_
    refine gf_X5_20_5 (pc := 15) 0 ok rfl dX5_takesDivision_15 ?_
    refine j_aload_n (pc := 18) 0 ok dX5_takesDivision_18 rfl rfl ?_
    refine gf_X5_56_5 (pc := 19) 0 ok rfl dX5_takesDivision_19 ?_
    refine j_iconst (pc := 22) ok dX5_takesDivision_22 ?_
    obtain ⟨r2, hr2, h⟩ := bd_inv h
    refine j_callV (pc := 23) ok (k_X3_insert (a0 := a0_result) (a0_marks := a0_result_marks) (a0_ci := 3) (a0_fx := []) (a0_marksN := 360) (a0_size := r1.2.2.1) (a0_marksF := r1.2.2.2) (x1 := a0_chain) (x2 := 1) q_mk3 hr2) gV_X5_113 ⟨rfl, hd_X3_insert⟩ [1, 2] (by decide) rfl rfl 1 rfl rfl rfl rfl ⟨Nat.zero_le _, Nat.zero_le _⟩ (Nat.le_of_ble_eq_true rfl) dX5_takesDivision_23 rfl [(a0, .inr (5, [.ref a0_signs, .int (iI a0_length), .ref a0_result, .ref a0_stack, .int (iI a0_top), .int (iI a0_state), .int (iI a0_bracket), .int (iI a0_chain), .int (iI a0_factor), .int (iI r1.1), .int (iI r1.2.1), .int (iI a0_script), .int (iI a0_isBound)])), (a0_result, .inr (3, [.ref a0_result_marks, .int (iI r2.1)])), (a0_result_marks, .inl (cs.1, 360, .inl (aI r2.2)))] rfl ?_
    refine j_aload_n (pc := 26) 0 ok dX5_takesDivision_26 rfl rfl ?_
    refine gf_X5_20_5 (pc := 27) 0 ok rfl dX5_takesDivision_27 ?_
    refine j_bipush (pc := 30) ok dX5_takesDivision_30 (by decide) ?_
    obtain ⟨r3, hr3, h⟩ := bd_inv h
    refine j_callV (pc := 32) ok (k_X3_add (a0 := a0_result) (a0_marks := a0_result_marks) (a0_ci := 3) (a0_fx := []) (a0_marksN := 360) (a0_size := r2.1) (a0_marksF := r2.2) (x1 := 6) q_mk3 hr3) gV_X5_94 ⟨rfl, hd_X3_add⟩ [1, 2] (by decide) rfl rfl 1 rfl rfl rfl rfl ⟨Nat.zero_le _, Nat.zero_le _⟩ (Nat.le_of_ble_eq_true rfl) dX5_takesDivision_32 rfl [(a0, .inr (5, [.ref a0_signs, .int (iI a0_length), .ref a0_result, .ref a0_stack, .int (iI a0_top), .int (iI a0_state), .int (iI a0_bracket), .int (iI a0_chain), .int (iI a0_factor), .int (iI r1.1), .int (iI r1.2.1), .int (iI a0_script), .int (iI a0_isBound)])), (a0_result, .inr (3, [.ref a0_result_marks, .int (iI r3.1)])), (a0_result_marks, .inl (cs.1, 360, .inl (aI r3.2)))] rfl ?_
    refine j_aload_n (pc := 35) 0 ok dX5_takesDivision_35 rfl rfl ?_
    refine j_aload_n (pc := 36) 0 ok dX5_takesDivision_36 rfl rfl ?_
    refine gf_X5_20_5 (pc := 37) 0 ok rfl dX5_takesDivision_37 ?_
    refine gf_X5_47_3 (pc := 40) 1 ok rfl dX5_takesDivision_40 ?_
    refine pf_X5_59_5 (pc := 43) 0 ok rfl dX5_takesDivision_43 [(a0, .inr (5, [.ref a0_signs, .int (iI a0_length), .ref a0_result, .ref a0_stack, .int (iI a0_top), .int (iI a0_state), .int (iI a0_bracket), .int (iI a0_chain), .int (iI r3.1), .int (iI r1.1), .int (iI r1.2.1), .int (iI a0_script), .int (iI a0_isBound)])), (a0_result, .inr (3, [.ref a0_result_marks, .int (iI r3.1)])), (a0_result_marks, .inl (cs.1, 360, .inl (aI r3.2)))] rfl ?_
    refine j_aload_n (pc := 46) 0 ok dX5_takesDivision_46 rfl rfl ?_
    refine j_iconst (pc := 47) ok dX5_takesDivision_47 ?_
    refine pf_X5_62_5 (pc := 48) 0 ok rfl dX5_takesDivision_48 h [(a0, .inr (5, [.ref a0_signs, .int (iI a0_length), .ref a0_result, .ref a0_stack, .int (iI a0_top), .int (iI a0_state), .int (iI a0_bracket), .int (iI a0_chain), .int (iI r3.1), .int (iI 1), .int (iI r1.2.1), .int (iI a0_script), .int (iI a0_isBound)])), (a0_result, .inr (3, [.ref a0_result_marks, .int (iI r3.1)])), (a0_result_marks, .inl (cs.1, 360, .inl (aI r3.2)))] rfl (fun h => ?_)
    refine j_aload_n (pc := 51) 0 ok dX5_takesDivision_51 rfl rfl ?_
    refine j_iconst (pc := 52) ok dX5_takesDivision_52 ?_
    refine pf_X5_41_5 (pc := 53) 0 ok rfl dX5_takesDivision_53 [(a0, .inr (5, [.ref a0_signs, .int (iI a0_length), .ref a0_result, .ref a0_stack, .int (iI a0_top), .int (iI 2), .int (iI a0_bracket), .int (iI a0_chain), .int (iI r3.1), .int (iI 1), .int (iI r1.2.1), .int (iI a0_script), .int (iI a0_isBound)])), (a0_result, .inr (3, [.ref a0_result_marks, .int (iI r3.1)])), (a0_result_marks, .inl (cs.1, 360, .inl (aI r3.2)))] rfl ?_
    refine j_iconst (pc := 56) ok dX5_takesDivision_56 ?_
    obtain ⟨hbo, h⟩ := gB_inv h
    obtain rfl := Option.some.inj h
    exact fin _ 57 hbo dX5_takesDivision_57
  · refine j_iconst (pc := 8) ok dX5_takesDivision_8 ?_
    obtain ⟨hbo, h⟩ := gB_inv h
    obtain rfl := Option.some.inj h
    exact fin _ 9 hbo dX5_takesDivision_9
def f_X5_endFactor (a0_state : Int) (a0_factor : Int) (a0_isUnder : Int) (a0_isPlain : Int) (a0_result_size : Int) (a0_result_marksF : (Nat → Int)) : Option (Int × Int × Int × (Nat → Int)) := jn (fun (z3 : Int × Int × Int × (Nat → Int)) => some (z3.1, z3.2.1, z3.2.2.1, z3.2.2.2)) (fun k1 => cEq a0_state 1 (cEq a0_isUnder 0 (k1 (a0_isUnder, a0_isPlain, a0_result_size, a0_result_marksF)) (bd (f_X5_endOperand a0_factor a0_isUnder a0_isPlain a0_result_size a0_result_marksF) (fun r2 => k1 (r2.1, r2.2.1, r2.2.2.1, r2.2.2.2)))) (k1 (a0_isUnder, a0_isPlain, a0_result_size, a0_result_marksF)))
set_option maxRecDepth 100000 in
set_option maxHeartbeats 4000000 in
theorem k_X5_endFactor {D : va_G} {cs : q_CS} {a0 a0_signs a0_result a0_stack a0_result_marks : Nat} {a0_length a0_top a0_state a0_bracket a0_chain a0_factor a0_isUnder a0_isPlain a0_script a0_isBound a0_result_size : Int} {a0_result_marksF : (Nat → Int)} {r : (Int × Int × Int × (Nat → Int))} (h : f_X5_endFactor a0_state a0_factor a0_isUnder a0_isPlain a0_result_size a0_result_marksF = some r) : q_M D cs yX5_endFactor cX5_endFactor 1 none 3 60 [.ref a0] [(a0, .inr (5, [.ref a0_signs, .int (iI a0_length), .ref a0_result, .ref a0_stack, .int (iI a0_top), .int (iI a0_state), .int (iI a0_bracket), .int (iI a0_chain), .int (iI a0_factor), .int (iI a0_isUnder), .int (iI a0_isPlain), .int (iI a0_script), .int (iI a0_isBound)])), (a0_result, .inr (3, [.ref a0_result_marks, .int (iI a0_result_size)])), (a0_result_marks, .inl (cs.1, 360, .inl (aI a0_result_marksF)))] none [(a0, .inr (5, [.ref a0_signs, .int (iI a0_length), .ref a0_result, .ref a0_stack, .int (iI a0_top), .int (iI a0_state), .int (iI a0_bracket), .int (iI a0_chain), .int (iI a0_factor), .int (iI r.1), .int (iI r.2.1), .int (iI a0_script), .int (iI a0_isBound)])), (a0_result, .inr (3, [.ref a0_result_marks, .int (iI r.2.2.1)])), (a0_result_marks, .inl (cs.1, 360, .inl (aI r.2.2.2)))] := by
  refine q_start_v [(0, .ref a0)] RX5 rfl (by decide +kernel) rfl (Nat.le_of_ble_eq_true rfl) (fun κ ok fin => ?_)
  unfold f_X5_endFactor at h
  refine j_aload_n (pc := 0) 0 ok dX5_endFactor_0 rfl rfl ?_
  refine gf_X5_41_5 (pc := 1) 0 ok rfl dX5_endFactor_1 ?_
  refine j_iconst (pc := 4) ok dX5_endFactor_4 ?_
  refine jn_use (P := fun z3 => q_J D κ 1 0 0 [(a0, .inr (5, [.ref a0_signs, .int (iI a0_length), .ref a0_result, .ref a0_stack, .int (iI a0_top), .int (iI a0_state), .int (iI a0_bracket), .int (iI a0_chain), .int (iI a0_factor), .int (iI z3.1), .int (iI z3.2.1), .int (iI a0_script), .int (iI a0_isBound)])), (a0_result, .inr (3, [.ref a0_result_marks, .int (iI z3.2.2.1)])), (a0_result_marks, .inl (cs.1, 360, .inl (aI z3.2.2.2)))] [] 19 []) h (fun z3 h => ?_) (fun k1 hk1 h => ?_)
  · obtain rfl := Option.some.inj h
    exact fin _ 19 dX5_endFactor_19
  · refine j_icmp_ne (pc := 5) 19 ok dX5_endFactor_5 (by decide) h (fun h => ?_) (fun h => ?_)
    · refine j_lv [] rfl ?_
      exact hk1 (a0_isUnder, a0_isPlain, a0_result_size, a0_result_marksF) h
    · refine j_aload_n (pc := 8) 0 ok dX5_endFactor_8 rfl rfl ?_
      refine gf_X5_62_5 (pc := 9) 0 ok rfl dX5_endFactor_9 ?_
      refine j_if_eq (pc := 12) 19 ok dX5_endFactor_12 (by decide) h (fun h => ?_) (fun h => ?_)
      · refine j_lv [] rfl ?_
        exact hk1 (a0_isUnder, a0_isPlain, a0_result_size, a0_result_marksF) h
      · refine j_aload_n (pc := 15) 0 ok dX5_endFactor_15 rfl rfl ?_
        obtain ⟨r2, hr2, h⟩ := bd_inv h
        refine j_callV (pc := 16) ok (k_X5_endOperand (a0 := a0) (a0_signs := a0_signs) (a0_result := a0_result) (a0_stack := a0_stack) (a0_result_marks := a0_result_marks) (a0_length := a0_length) (a0_top := a0_top) (a0_state := a0_state) (a0_bracket := a0_bracket) (a0_chain := a0_chain) (a0_factor := a0_factor) (a0_isUnder := a0_isUnder) (a0_isPlain := a0_isPlain) (a0_script := a0_script) (a0_isBound := a0_isBound) (a0_result_size := a0_result_size) (a0_result_marksF := a0_result_marksF) hr2) gV_X5_110 ⟨rfl, hd_X5_endOperand⟩ [0, 1, 2] (by decide) rfl rfl 0 rfl rfl rfl rfl ⟨Nat.zero_le _, Nat.zero_le _⟩ (Nat.le_of_ble_eq_true rfl) dX5_endFactor_16 rfl [(a0, .inr (5, [.ref a0_signs, .int (iI a0_length), .ref a0_result, .ref a0_stack, .int (iI a0_top), .int (iI a0_state), .int (iI a0_bracket), .int (iI a0_chain), .int (iI a0_factor), .int (iI r2.1), .int (iI r2.2.1), .int (iI a0_script), .int (iI a0_isBound)])), (a0_result, .inr (3, [.ref a0_result_marks, .int (iI r2.2.2.1)])), (a0_result_marks, .inl (cs.1, 360, .inl (aI r2.2.2.2)))] rfl ?_
        refine j_lv [] rfl ?_
        exact hk1 (r2.1, r2.2.1, r2.2.2.1, r2.2.2.2) h
def f_X7_isOperator (x0 : Int) : Option (Int) := jn (fun (z4 : Int) => gB z4 (some z4)) (fun k2 => jn (fun (z3 : Unit) => k2 1) (fun k1 => cEq x0 43 (k1 ()) (cEq x0 45 (k1 ()) (cEq x0 42 (k1 ()) (cEq x0 61 (k1 ()) (cEq x0 44 (k1 ()) (cEq x0 46 (k1 ()) (k2 0))))))))
set_option maxRecDepth 100000 in
set_option maxHeartbeats 4000000 in
theorem k_X7_isOperator {D : va_G} {cs : q_CS} {x0 : Int} {r : (Int)} (h : f_X7_isOperator x0 = some r) : q_M D cs yX7_isOperator cX7_isOperator 1 (some .boolean) 0 0 [.int (iI x0)] [] (some (.int (iI r))) [] := by
  refine q_start_z [(0, .int (iI x0))] RX7 rfl (by decide +kernel) rfl (Nat.le_of_ble_eq_true rfl) (fun κ ok fin => ?_)
  unfold f_X7_isOperator at h
  refine j_iload_n (pc := 0) 0 ok dX7_isOperator_0 rfl rfl ?_
  refine j_bipush (pc := 1) ok dX7_isOperator_1 (by decide) ?_
  refine jn_use (P := fun z4 => q_J D κ 1 0 0 [] [] 41 [.int (iI z4)]) h (fun z4 h => ?_) (fun k2 hk2 h => ?_)
  · obtain ⟨hbo, h⟩ := gB_inv h
    obtain rfl := Option.some.inj h
    exact fin _ 41 hbo dX7_isOperator_41
  · refine jn_use (P := fun z3 => q_J D κ 1 0 0 [] [] 36 []) h (fun z3 h => ?_) (fun k1 hk1 h => ?_)
    · refine j_iconst (pc := 36) ok dX7_isOperator_36 ?_
      refine j_goto (pc := 37) 41 ok dX7_isOperator_37 (by decide) ?_
      exact hk2 1 h
    · refine j_icmp_eq (pc := 3) 36 ok dX7_isOperator_3 (by decide) h (fun h => ?_) (fun h => ?_)
      · refine j_lv [] rfl ?_
        exact hk1 () h
      · refine j_iload_n (pc := 6) 0 ok dX7_isOperator_6 rfl rfl ?_
        refine j_bipush (pc := 7) ok dX7_isOperator_7 (by decide) ?_
        refine j_icmp_eq (pc := 9) 36 ok dX7_isOperator_9 (by decide) h (fun h => ?_) (fun h => ?_)
        · refine j_lv [] rfl ?_
          exact hk1 () h
        · refine j_iload_n (pc := 12) 0 ok dX7_isOperator_12 rfl rfl ?_
          refine j_bipush (pc := 13) ok dX7_isOperator_13 (by decide) ?_
          refine j_icmp_eq (pc := 15) 36 ok dX7_isOperator_15 (by decide) h (fun h => ?_) (fun h => ?_)
          · refine j_lv [] rfl ?_
            exact hk1 () h
          · refine j_iload_n (pc := 18) 0 ok dX7_isOperator_18 rfl rfl ?_
            refine j_bipush (pc := 19) ok dX7_isOperator_19 (by decide) ?_
            refine j_icmp_eq (pc := 21) 36 ok dX7_isOperator_21 (by decide) h (fun h => ?_) (fun h => ?_)
            · refine j_lv [] rfl ?_
              exact hk1 () h
            · refine j_iload_n (pc := 24) 0 ok dX7_isOperator_24 rfl rfl ?_
              refine j_bipush (pc := 25) ok dX7_isOperator_25 (by decide) ?_
              refine j_icmp_eq (pc := 27) 36 ok dX7_isOperator_27 (by decide) h (fun h => ?_) (fun h => ?_)
              · refine j_lv [] rfl ?_
                exact hk1 () h
              · refine j_iload_n (pc := 30) 0 ok dX7_isOperator_30 rfl rfl ?_
                refine j_bipush (pc := 31) ok dX7_isOperator_31 (by decide) ?_
                refine j_icmp_ne (pc := 33) 40 ok dX7_isOperator_33 (by decide) h (fun h => ?_) (fun h => ?_)
                · refine j_iconst (pc := 40) ok dX7_isOperator_40 ?_
                  refine j_lv [] rfl ?_
                  exact hk2 0 h
                · refine j_lv [] rfl ?_
                  exact hk1 () h
def f_X5_pop (a0_top : Int) (a0_stackF : (Nat → Int)) : Option (Int × Int) := jn (fun (z2 : Unit) => some (0, a0_top)) (fun k1 => cLt 0 a0_top (cLt 720 a0_top (k1 ()) (gIn (a0_top - 1) 720 (some (a0_stackF (a0_top - 1).toNat, a0_top - 1)))) (k1 ()))
set_option maxRecDepth 100000 in
set_option maxHeartbeats 4000000 in
theorem k_X5_pop {D : va_G} {cs : q_CS} {a0 a0_signs a0_result a0_stack : Nat} {a0_length a0_top a0_state a0_bracket a0_chain a0_factor a0_isUnder a0_isPlain a0_script a0_isBound : Int} {a0_stackF : (Nat → Int)} {r : (Int × Int)} (h : f_X5_pop a0_top a0_stackF = some r) : q_M D cs yX5_pop cX5_pop 1 (some .int) 0 0 [.ref a0] [(a0, .inr (5, [.ref a0_signs, .int (iI a0_length), .ref a0_result, .ref a0_stack, .int (iI a0_top), .int (iI a0_state), .int (iI a0_bracket), .int (iI a0_chain), .int (iI a0_factor), .int (iI a0_isUnder), .int (iI a0_isPlain), .int (iI a0_script), .int (iI a0_isBound)])), (a0_stack, .inl (cs.1, 720, .inl (aI a0_stackF)))] (some (.int (iI r.1))) [(a0, .inr (5, [.ref a0_signs, .int (iI a0_length), .ref a0_result, .ref a0_stack, .int (iI r.2), .int (iI a0_state), .int (iI a0_bracket), .int (iI a0_chain), .int (iI a0_factor), .int (iI a0_isUnder), .int (iI a0_isPlain), .int (iI a0_script), .int (iI a0_isBound)])), (a0_stack, .inl (cs.1, 720, .inl (aI a0_stackF)))] := by
  refine q_start_i [(0, .ref a0)] RX5 rfl (by decide +kernel) rfl (Nat.le_of_ble_eq_true rfl) rfl (fun κ ok fin => ?_)
  unfold f_X5_pop at h
  refine j_aload_n (pc := 0) 0 ok dX5_pop_0 rfl rfl ?_
  refine gf_X5_50_5 (pc := 1) 0 ok rfl dX5_pop_1 ?_
  refine jn_use (P := fun z2 => q_J D κ 1 0 0 [(a0, .inr (5, [.ref a0_signs, .int (iI a0_length), .ref a0_result, .ref a0_stack, .int (iI a0_top), .int (iI a0_state), .int (iI a0_bracket), .int (iI a0_chain), .int (iI a0_factor), .int (iI a0_isUnder), .int (iI a0_isPlain), .int (iI a0_script), .int (iI a0_isBound)])), (a0_stack, .inl (cs.1, 720, .inl (aI a0_stackF)))] [] 19 []) h (fun z2 h => ?_) (fun k1 hk1 h => ?_)
  · refine j_iconst (pc := 19) ok dX5_pop_19 ?_
    obtain rfl := Option.some.inj h
    exact fin _ 20 dX5_pop_20
  · refine j_if_le (pc := 4) 19 ok dX5_pop_4 (by decide) h (fun h => ?_) (fun h => ?_)
    · refine j_lv [] rfl ?_
      exact hk1 () h
    · refine j_aload_n (pc := 7) 0 ok dX5_pop_7 rfl rfl ?_
      refine gf_X5_50_5 (pc := 8) 0 ok rfl dX5_pop_8 ?_
      refine j_aload_n (pc := 11) 0 ok dX5_pop_11 rfl rfl ?_
      refine gf_X5_24_5 (pc := 12) 0 ok rfl dX5_pop_12 ?_
      refine j_alen (pc := 15) 1 0 ok rfl rfl dX5_pop_15 ?_
      refine j_icmp_le (pc := 16) 21 ok dX5_pop_16 (by decide) h (fun h => ?_) (fun h => ?_)
      · refine j_aload_n (pc := 21) 0 ok dX5_pop_21 rfl rfl ?_
        refine j_dup (pc := 22) ok dX5_pop_22 rfl ?_
        refine gf_X5_50_5 (pc := 23) 0 ok rfl dX5_pop_23 ?_
        refine j_iconst (pc := 26) ok dX5_pop_26 ?_
        refine j_isub (pc := 27) ok dX5_pop_27 ?_
        refine pf_X5_50_5 (pc := 28) 0 ok rfl dX5_pop_28 [(a0, .inr (5, [.ref a0_signs, .int (iI a0_length), .ref a0_result, .ref a0_stack, .int (iI (a0_top - 1)), .int (iI a0_state), .int (iI a0_bracket), .int (iI a0_chain), .int (iI a0_factor), .int (iI a0_isUnder), .int (iI a0_isPlain), .int (iI a0_script), .int (iI a0_isBound)])), (a0_stack, .inl (cs.1, 720, .inl (aI a0_stackF)))] rfl ?_
        refine j_aload_n (pc := 31) 0 ok dX5_pop_31 rfl rfl ?_
        refine gf_X5_24_5 (pc := 32) 0 ok rfl dX5_pop_32 ?_
        refine j_aload_n (pc := 35) 0 ok dX5_pop_35 rfl rfl ?_
        refine gf_X5_50_5 (pc := 36) 0 ok rfl dX5_pop_36 ?_
        refine j_iald (pc := 39) 1 ok rfl dX5_pop_39 h (fun h => ?_)
        obtain rfl := Option.some.inj h
        exact fin _ 40 dX5_pop_40
      · refine j_lv [] rfl ?_
        exact hk1 () h
def f_X5_closesBracket (a0_top : Int) (a0_state : Int) (a0_bracket : Int) (a0_chain : Int) (a0_factor : Int) (a0_isUnder : Int) (a0_isPlain : Int) (a0_script : Int) (a0_isBound : Int) (a0_result_size : Int) (a0_stackF : (Nat → Int)) (a0_result_marksF : (Nat → Int)) : Option (Int × Int × Int × Int × Int × Int × Int × Int × Int × Int × Int × (Nat → Int)) := cEq a0_bracket 0 (gB 0 (some (0, a0_top, a0_state, a0_bracket, a0_chain, a0_factor, a0_isUnder, a0_isPlain, a0_script, a0_isBound, a0_result_size, a0_result_marksF))) (bd (f_X5_pop a0_top a0_stackF) (fun r1 => jn (fun (z3 : Int) => gB z3 (bd (f_X5_pop r1.2 a0_stackF) (fun r4 => bd (f_X5_pop r4.2 a0_stackF) (fun r5 => jn (fun (z7 : Int) => gB z7 (bd (f_X5_pop r5.2 a0_stackF) (fun r8 => bd (f_X5_pop r8.2 a0_stackF) (fun r9 => bd (f_X5_pop r9.2 a0_stackF) (fun r10 => bd (f_X5_isItem r4.1 a0_bracket) (fun r11 => jn (fun (z14 : Int × (Nat → Int)) => jn (fun (z16 : Int) => bd (f_X5_endBase a0_state a0_isPlain r4.1 z3 z14.1 z14.2 z16) (fun r17 => gB 1 (some (1, r10.2, r17.1, r10.1, r9.1, r8.1, z7, r17.2.1, r17.2.2.1, z3, r17.2.2.2.1, r17.2.2.2.2)))) (fun k15 => cEq a0_bracket 5 (k15 1) (k15 0))) (fun k12 => cEq r11 0 (k12 (a0_result_size, a0_result_marksF)) (bd (f_X3_add 360 a0_result_size a0_result_marksF (10 + a0_bracket)) (fun r13 => k12 (r13.1, r13.2)))))))))) (fun k6 => cEq r5.1 1 (k6 1) (k6 0)))))) (fun k2 => cEq r1.1 1 (k2 1) (k2 0))))
set_option maxRecDepth 100000 in
set_option maxHeartbeats 4000000 in
theorem k_X5_closesBracket {D : va_G} {cs : q_CS} {a0 a0_signs a0_result a0_stack a0_result_marks : Nat} {a0_length a0_top a0_state a0_bracket a0_chain a0_factor a0_isUnder a0_isPlain a0_script a0_isBound a0_result_size : Int} {a0_stackF a0_result_marksF : (Nat → Int)} {r : (Int × Int × Int × Int × Int × Int × Int × Int × Int × Int × Int × (Nat → Int))} (h : f_X5_closesBracket a0_top a0_state a0_bracket a0_chain a0_factor a0_isUnder a0_isPlain a0_script a0_isBound a0_result_size a0_stackF a0_result_marksF = some r) : q_M D cs yX5_closesBracket cX5_closesBracket 2 (some .boolean) 2 42 [.ref a0] [(a0, .inr (5, [.ref a0_signs, .int (iI a0_length), .ref a0_result, .ref a0_stack, .int (iI a0_top), .int (iI a0_state), .int (iI a0_bracket), .int (iI a0_chain), .int (iI a0_factor), .int (iI a0_isUnder), .int (iI a0_isPlain), .int (iI a0_script), .int (iI a0_isBound)])), (a0_result, .inr (3, [.ref a0_result_marks, .int (iI a0_result_size)])), (a0_stack, .inl (cs.1, 720, .inl (aI a0_stackF))), (a0_result_marks, .inl (cs.1, 360, .inl (aI a0_result_marksF)))] (some (.int (iI r.1))) [(a0, .inr (5, [.ref a0_signs, .int (iI a0_length), .ref a0_result, .ref a0_stack, .int (iI r.2.1), .int (iI r.2.2.1), .int (iI r.2.2.2.1), .int (iI r.2.2.2.2.1), .int (iI r.2.2.2.2.2.1), .int (iI r.2.2.2.2.2.2.1), .int (iI r.2.2.2.2.2.2.2.1), .int (iI r.2.2.2.2.2.2.2.2.1), .int (iI r.2.2.2.2.2.2.2.2.2.1)])), (a0_result, .inr (3, [.ref a0_result_marks, .int (iI r.2.2.2.2.2.2.2.2.2.2.1)])), (a0_stack, .inl (cs.1, 720, .inl (aI a0_stackF))), (a0_result_marks, .inl (cs.1, 360, .inl (aI r.2.2.2.2.2.2.2.2.2.2.2)))] := by
  refine q_start_z [(0, .ref a0)] RX5 rfl (by decide +kernel) rfl (Nat.le_of_ble_eq_true rfl) (fun κ ok fin => ?_)
  unfold f_X5_closesBracket at h
  refine j_aload_n (pc := 0) 0 ok dX5_closesBracket_0 rfl rfl ?_
  refine gf_X5_38_5 (pc := 1) 0 ok rfl dX5_closesBracket_1 ?_
  refine j_if_ne (pc := 4) 9 ok dX5_closesBracket_4 (by decide) h (fun h => ?_) (fun h => ?_)
  · refine j_aload_n (pc := 9) 0 ok dX5_closesBracket_9 rfl rfl ?_
    refine gf_X5_38_5 (pc := 10) 0 ok rfl dX5_closesBracket_10 ?_
    refine j_istore_n (pc := 13) (lv' := [(1, .int (iI a0_bracket)), (0, .ref a0)]) ok dX5_closesBracket_13 rfl (by decide) rfl ?_
    refine j_aload_n (pc := 14) 1 ok dX5_closesBracket_14 rfl rfl ?_
    refine j_aload_n (pc := 15) 1 ok dX5_closesBracket_15 rfl rfl ?_
    obtain ⟨r1, hr1, h⟩ := bd_inv h
    refine j_callV (pc := 16) ok (k_X5_pop (a0 := a0) (a0_signs := a0_signs) (a0_result := a0_result) (a0_stack := a0_stack) (a0_length := a0_length) (a0_top := a0_top) (a0_state := a0_state) (a0_bracket := a0_bracket) (a0_chain := a0_chain) (a0_factor := a0_factor) (a0_isUnder := a0_isUnder) (a0_isPlain := a0_isPlain) (a0_script := a0_script) (a0_isBound := a0_isBound) (a0_stackF := a0_stackF) hr1) gV_X5_126 ⟨rfl, hd_X5_pop⟩ [0, 2] (by decide) rfl rfl 0 rfl rfl rfl rfl ⟨Nat.zero_le _, Nat.zero_le _⟩ (Nat.le_of_ble_eq_true rfl) dX5_closesBracket_16 rfl [(a0, .inr (5, [.ref a0_signs, .int (iI a0_length), .ref a0_result, .ref a0_stack, .int (iI r1.2), .int (iI a0_state), .int (iI a0_bracket), .int (iI a0_chain), .int (iI a0_factor), .int (iI a0_isUnder), .int (iI a0_isPlain), .int (iI a0_script), .int (iI a0_isBound)])), (a0_result, .inr (3, [.ref a0_result_marks, .int (iI a0_result_size)])), (a0_stack, .inl (cs.1, 720, .inl (aI a0_stackF))), (a0_result_marks, .inl (cs.1, 360, .inl (aI a0_result_marksF)))] rfl ?_
    refine j_iconst (pc := 19) ok dX5_closesBracket_19 ?_
    refine jn_use (P := fun z3 => q_J D κ 2 0 0 [(a0, .inr (5, [.ref a0_signs, .int (iI a0_length), .ref a0_result, .ref a0_stack, .int (iI r1.2), .int (iI a0_state), .int (iI a0_bracket), .int (iI a0_chain), .int (iI a0_factor), .int (iI a0_isUnder), .int (iI a0_isPlain), .int (iI a0_script), .int (iI a0_isBound)])), (a0_result, .inr (3, [.ref a0_result_marks, .int (iI a0_result_size)])), (a0_stack, .inl (cs.1, 720, .inl (aI a0_stackF))), (a0_result_marks, .inl (cs.1, 360, .inl (aI a0_result_marksF)))] [(0, .ref a0), (1, .int (iI a0_bracket))] 28 [.int (iI z3), .ref a0]) h (fun z3 h => ?_) (fun k2 hk2 h => ?_)
    · refine pf_X5_72_5 (pc := 28) 0 ok rfl dX5_closesBracket_28 h [(a0, .inr (5, [.ref a0_signs, .int (iI a0_length), .ref a0_result, .ref a0_stack, .int (iI r1.2), .int (iI a0_state), .int (iI a0_bracket), .int (iI a0_chain), .int (iI a0_factor), .int (iI a0_isUnder), .int (iI a0_isPlain), .int (iI a0_script), .int (iI z3)])), (a0_result, .inr (3, [.ref a0_result_marks, .int (iI a0_result_size)])), (a0_stack, .inl (cs.1, 720, .inl (aI a0_stackF))), (a0_result_marks, .inl (cs.1, 360, .inl (aI a0_result_marksF)))] rfl (fun h => ?_)
      refine j_aload_n (pc := 31) 0 ok dX5_closesBracket_31 rfl rfl ?_
      refine j_aload_n (pc := 32) 0 ok dX5_closesBracket_32 rfl rfl ?_
      obtain ⟨r4, hr4, h⟩ := bd_inv h
      refine j_callV (pc := 33) ok (k_X5_pop (a0 := a0) (a0_signs := a0_signs) (a0_result := a0_result) (a0_stack := a0_stack) (a0_length := a0_length) (a0_top := r1.2) (a0_state := a0_state) (a0_bracket := a0_bracket) (a0_chain := a0_chain) (a0_factor := a0_factor) (a0_isUnder := a0_isUnder) (a0_isPlain := a0_isPlain) (a0_script := a0_script) (a0_isBound := z3) (a0_stackF := a0_stackF) hr4) gV_X5_126 ⟨rfl, hd_X5_pop⟩ [0, 2] (by decide) rfl rfl 0 rfl rfl rfl rfl ⟨Nat.zero_le _, Nat.zero_le _⟩ (Nat.le_of_ble_eq_true rfl) dX5_closesBracket_33 rfl [(a0, .inr (5, [.ref a0_signs, .int (iI a0_length), .ref a0_result, .ref a0_stack, .int (iI r4.2), .int (iI a0_state), .int (iI a0_bracket), .int (iI a0_chain), .int (iI a0_factor), .int (iI a0_isUnder), .int (iI a0_isPlain), .int (iI a0_script), .int (iI z3)])), (a0_result, .inr (3, [.ref a0_result_marks, .int (iI a0_result_size)])), (a0_stack, .inl (cs.1, 720, .inl (aI a0_stackF))), (a0_result_marks, .inl (cs.1, 360, .inl (aI a0_result_marksF)))] rfl ?_
      refine pf_X5_69_5 (pc := 36) 0 ok rfl dX5_closesBracket_36 [(a0, .inr (5, [.ref a0_signs, .int (iI a0_length), .ref a0_result, .ref a0_stack, .int (iI r4.2), .int (iI a0_state), .int (iI a0_bracket), .int (iI a0_chain), .int (iI a0_factor), .int (iI a0_isUnder), .int (iI a0_isPlain), .int (iI r4.1), .int (iI z3)])), (a0_result, .inr (3, [.ref a0_result_marks, .int (iI a0_result_size)])), (a0_stack, .inl (cs.1, 720, .inl (aI a0_stackF))), (a0_result_marks, .inl (cs.1, 360, .inl (aI a0_result_marksF)))] rfl ?_
      refine j_aload_n (pc := 39) 0 ok dX5_closesBracket_39 rfl rfl ?_
      refine j_aload_n (pc := 40) 0 ok dX5_closesBracket_40 rfl rfl ?_
      obtain ⟨r5, hr5, h⟩ := bd_inv h
      refine j_callV (pc := 41) ok (k_X5_pop (a0 := a0) (a0_signs := a0_signs) (a0_result := a0_result) (a0_stack := a0_stack) (a0_length := a0_length) (a0_top := r4.2) (a0_state := a0_state) (a0_bracket := a0_bracket) (a0_chain := a0_chain) (a0_factor := a0_factor) (a0_isUnder := a0_isUnder) (a0_isPlain := a0_isPlain) (a0_script := r4.1) (a0_isBound := z3) (a0_stackF := a0_stackF) hr5) gV_X5_126 ⟨rfl, hd_X5_pop⟩ [0, 2] (by decide) rfl rfl 0 rfl rfl rfl rfl ⟨Nat.zero_le _, Nat.zero_le _⟩ (Nat.le_of_ble_eq_true rfl) dX5_closesBracket_41 rfl [(a0, .inr (5, [.ref a0_signs, .int (iI a0_length), .ref a0_result, .ref a0_stack, .int (iI r5.2), .int (iI a0_state), .int (iI a0_bracket), .int (iI a0_chain), .int (iI a0_factor), .int (iI a0_isUnder), .int (iI a0_isPlain), .int (iI r4.1), .int (iI z3)])), (a0_result, .inr (3, [.ref a0_result_marks, .int (iI a0_result_size)])), (a0_stack, .inl (cs.1, 720, .inl (aI a0_stackF))), (a0_result_marks, .inl (cs.1, 360, .inl (aI a0_result_marksF)))] rfl ?_
      refine j_iconst (pc := 44) ok dX5_closesBracket_44 ?_
      refine jn_use (P := fun z7 => q_J D κ 2 0 0 [(a0, .inr (5, [.ref a0_signs, .int (iI a0_length), .ref a0_result, .ref a0_stack, .int (iI r5.2), .int (iI a0_state), .int (iI a0_bracket), .int (iI a0_chain), .int (iI a0_factor), .int (iI a0_isUnder), .int (iI a0_isPlain), .int (iI r4.1), .int (iI z3)])), (a0_result, .inr (3, [.ref a0_result_marks, .int (iI a0_result_size)])), (a0_stack, .inl (cs.1, 720, .inl (aI a0_stackF))), (a0_result_marks, .inl (cs.1, 360, .inl (aI a0_result_marksF)))] [(0, .ref a0), (1, .int (iI a0_bracket))] 53 [.int (iI z7), .ref a0]) h (fun z7 h => ?_) (fun k6 hk6 h => ?_)
      · refine pf_X5_62_5 (pc := 53) 0 ok rfl dX5_closesBracket_53 h [(a0, .inr (5, [.ref a0_signs, .int (iI a0_length), .ref a0_result, .ref a0_stack, .int (iI r5.2), .int (iI a0_state), .int (iI a0_bracket), .int (iI a0_chain), .int (iI a0_factor), .int (iI z7), .int (iI a0_isPlain), .int (iI r4.1), .int (iI z3)])), (a0_result, .inr (3, [.ref a0_result_marks, .int (iI a0_result_size)])), (a0_stack, .inl (cs.1, 720, .inl (aI a0_stackF))), (a0_result_marks, .inl (cs.1, 360, .inl (aI a0_result_marksF)))] rfl (fun h => ?_)
        refine j_aload_n (pc := 56) 0 ok dX5_closesBracket_56 rfl rfl ?_
        refine j_aload_n (pc := 57) 0 ok dX5_closesBracket_57 rfl rfl ?_
        obtain ⟨r8, hr8, h⟩ := bd_inv h
        refine j_callV (pc := 58) ok (k_X5_pop (a0 := a0) (a0_signs := a0_signs) (a0_result := a0_result) (a0_stack := a0_stack) (a0_length := a0_length) (a0_top := r5.2) (a0_state := a0_state) (a0_bracket := a0_bracket) (a0_chain := a0_chain) (a0_factor := a0_factor) (a0_isUnder := z7) (a0_isPlain := a0_isPlain) (a0_script := r4.1) (a0_isBound := z3) (a0_stackF := a0_stackF) hr8) gV_X5_126 ⟨rfl, hd_X5_pop⟩ [0, 2] (by decide) rfl rfl 0 rfl rfl rfl rfl ⟨Nat.zero_le _, Nat.zero_le _⟩ (Nat.le_of_ble_eq_true rfl) dX5_closesBracket_58 rfl [(a0, .inr (5, [.ref a0_signs, .int (iI a0_length), .ref a0_result, .ref a0_stack, .int (iI r8.2), .int (iI a0_state), .int (iI a0_bracket), .int (iI a0_chain), .int (iI a0_factor), .int (iI z7), .int (iI a0_isPlain), .int (iI r4.1), .int (iI z3)])), (a0_result, .inr (3, [.ref a0_result_marks, .int (iI a0_result_size)])), (a0_stack, .inl (cs.1, 720, .inl (aI a0_stackF))), (a0_result_marks, .inl (cs.1, 360, .inl (aI a0_result_marksF)))] rfl ?_
        refine pf_X5_59_5 (pc := 61) 0 ok rfl dX5_closesBracket_61 [(a0, .inr (5, [.ref a0_signs, .int (iI a0_length), .ref a0_result, .ref a0_stack, .int (iI r8.2), .int (iI a0_state), .int (iI a0_bracket), .int (iI a0_chain), .int (iI r8.1), .int (iI z7), .int (iI a0_isPlain), .int (iI r4.1), .int (iI z3)])), (a0_result, .inr (3, [.ref a0_result_marks, .int (iI a0_result_size)])), (a0_stack, .inl (cs.1, 720, .inl (aI a0_stackF))), (a0_result_marks, .inl (cs.1, 360, .inl (aI a0_result_marksF)))] rfl ?_
        refine j_aload_n (pc := 64) 0 ok dX5_closesBracket_64 rfl rfl ?_
        refine j_aload_n (pc := 65) 0 ok dX5_closesBracket_65 rfl rfl ?_
        obtain ⟨r9, hr9, h⟩ := bd_inv h
        refine j_callV (pc := 66) ok (k_X5_pop (a0 := a0) (a0_signs := a0_signs) (a0_result := a0_result) (a0_stack := a0_stack) (a0_length := a0_length) (a0_top := r8.2) (a0_state := a0_state) (a0_bracket := a0_bracket) (a0_chain := a0_chain) (a0_factor := r8.1) (a0_isUnder := z7) (a0_isPlain := a0_isPlain) (a0_script := r4.1) (a0_isBound := z3) (a0_stackF := a0_stackF) hr9) gV_X5_126 ⟨rfl, hd_X5_pop⟩ [0, 2] (by decide) rfl rfl 0 rfl rfl rfl rfl ⟨Nat.zero_le _, Nat.zero_le _⟩ (Nat.le_of_ble_eq_true rfl) dX5_closesBracket_66 rfl [(a0, .inr (5, [.ref a0_signs, .int (iI a0_length), .ref a0_result, .ref a0_stack, .int (iI r9.2), .int (iI a0_state), .int (iI a0_bracket), .int (iI a0_chain), .int (iI r8.1), .int (iI z7), .int (iI a0_isPlain), .int (iI r4.1), .int (iI z3)])), (a0_result, .inr (3, [.ref a0_result_marks, .int (iI a0_result_size)])), (a0_stack, .inl (cs.1, 720, .inl (aI a0_stackF))), (a0_result_marks, .inl (cs.1, 360, .inl (aI a0_result_marksF)))] rfl ?_
        refine pf_X5_56_5 (pc := 69) 0 ok rfl dX5_closesBracket_69 [(a0, .inr (5, [.ref a0_signs, .int (iI a0_length), .ref a0_result, .ref a0_stack, .int (iI r9.2), .int (iI a0_state), .int (iI a0_bracket), .int (iI r9.1), .int (iI r8.1), .int (iI z7), .int (iI a0_isPlain), .int (iI r4.1), .int (iI z3)])), (a0_result, .inr (3, [.ref a0_result_marks, .int (iI a0_result_size)])), (a0_stack, .inl (cs.1, 720, .inl (aI a0_stackF))), (a0_result_marks, .inl (cs.1, 360, .inl (aI a0_result_marksF)))] rfl ?_
        refine j_aload_n (pc := 72) 0 ok dX5_closesBracket_72 rfl rfl ?_
        refine j_aload_n (pc := 73) 0 ok dX5_closesBracket_73 rfl rfl ?_
        obtain ⟨r10, hr10, h⟩ := bd_inv h
        refine j_callV (pc := 74) ok (k_X5_pop (a0 := a0) (a0_signs := a0_signs) (a0_result := a0_result) (a0_stack := a0_stack) (a0_length := a0_length) (a0_top := r9.2) (a0_state := a0_state) (a0_bracket := a0_bracket) (a0_chain := r9.1) (a0_factor := r8.1) (a0_isUnder := z7) (a0_isPlain := a0_isPlain) (a0_script := r4.1) (a0_isBound := z3) (a0_stackF := a0_stackF) hr10) gV_X5_126 ⟨rfl, hd_X5_pop⟩ [0, 2] (by decide) rfl rfl 0 rfl rfl rfl rfl ⟨Nat.zero_le _, Nat.zero_le _⟩ (Nat.le_of_ble_eq_true rfl) dX5_closesBracket_74 rfl [(a0, .inr (5, [.ref a0_signs, .int (iI a0_length), .ref a0_result, .ref a0_stack, .int (iI r10.2), .int (iI a0_state), .int (iI a0_bracket), .int (iI r9.1), .int (iI r8.1), .int (iI z7), .int (iI a0_isPlain), .int (iI r4.1), .int (iI z3)])), (a0_result, .inr (3, [.ref a0_result_marks, .int (iI a0_result_size)])), (a0_stack, .inl (cs.1, 720, .inl (aI a0_stackF))), (a0_result_marks, .inl (cs.1, 360, .inl (aI a0_result_marksF)))] rfl ?_
        refine pf_X5_38_5 (pc := 77) 0 ok rfl dX5_closesBracket_77 [(a0, .inr (5, [.ref a0_signs, .int (iI a0_length), .ref a0_result, .ref a0_stack, .int (iI r10.2), .int (iI a0_state), .int (iI r10.1), .int (iI r9.1), .int (iI r8.1), .int (iI z7), .int (iI a0_isPlain), .int (iI r4.1), .int (iI z3)])), (a0_result, .inr (3, [.ref a0_result_marks, .int (iI a0_result_size)])), (a0_stack, .inl (cs.1, 720, .inl (aI a0_stackF))), (a0_result_marks, .inl (cs.1, 360, .inl (aI a0_result_marksF)))] rfl ?_
        refine j_aload_n (pc := 80) 0 ok dX5_closesBracket_80 rfl rfl ?_
        refine j_iload_n (pc := 81) 1 ok dX5_closesBracket_81 rfl rfl ?_
        obtain ⟨r11, hr11, h⟩ := bd_inv h
        refine j_callV (pc := 82) ok (k_X5_isItem (a0 := a0) (a0_signs := a0_signs) (a0_result := a0_result) (a0_stack := a0_stack) (a0_length := a0_length) (a0_top := r10.2) (a0_state := a0_state) (a0_bracket := r10.1) (a0_chain := r9.1) (a0_factor := r8.1) (a0_isUnder := z7) (a0_isPlain := a0_isPlain) (a0_script := r4.1) (a0_isBound := z3) (x1 := a0_bracket) hr11) gV_X5_120 ⟨rfl, hd_X5_isItem⟩ [0] (by decide) rfl rfl 0 rfl rfl rfl rfl ⟨Nat.zero_le _, Nat.zero_le _⟩ (Nat.le_of_ble_eq_true rfl) dX5_closesBracket_82 rfl [(a0, .inr (5, [.ref a0_signs, .int (iI a0_length), .ref a0_result, .ref a0_stack, .int (iI r10.2), .int (iI a0_state), .int (iI r10.1), .int (iI r9.1), .int (iI r8.1), .int (iI z7), .int (iI a0_isPlain), .int (iI r4.1), .int (iI z3)])), (a0_result, .inr (3, [.ref a0_result_marks, .int (iI a0_result_size)])), (a0_stack, .inl (cs.1, 720, .inl (aI a0_stackF))), (a0_result_marks, .inl (cs.1, 360, .inl (aI a0_result_marksF)))] rfl ?_
        refine jn_use (P := fun z14 => q_J D κ 2 0 0 [(a0, .inr (5, [.ref a0_signs, .int (iI a0_length), .ref a0_result, .ref a0_stack, .int (iI r10.2), .int (iI a0_state), .int (iI r10.1), .int (iI r9.1), .int (iI r8.1), .int (iI z7), .int (iI a0_isPlain), .int (iI r4.1), .int (iI z3)])), (a0_result, .inr (3, [.ref a0_result_marks, .int (iI z14.1)])), (a0_stack, .inl (cs.1, 720, .inl (aI a0_stackF))), (a0_result_marks, .inl (cs.1, 360, .inl (aI z14.2)))] [(0, .ref a0), (1, .int (iI a0_bracket))] 99 []) h (fun z14 h => ?_) (fun k12 hk12 h => ?_)
        · refine j_aload_n (pc := 99) 0 ok dX5_closesBracket_99 rfl rfl ?_
          refine j_iload_n (pc := 100) 1 ok dX5_closesBracket_100 rfl rfl ?_
          refine j_iconst (pc := 101) ok dX5_closesBracket_101 ?_
          refine jn_use (P := fun z16 => q_J D κ 2 0 0 [(a0, .inr (5, [.ref a0_signs, .int (iI a0_length), .ref a0_result, .ref a0_stack, .int (iI r10.2), .int (iI a0_state), .int (iI r10.1), .int (iI r9.1), .int (iI r8.1), .int (iI z7), .int (iI a0_isPlain), .int (iI r4.1), .int (iI z3)])), (a0_result, .inr (3, [.ref a0_result_marks, .int (iI z14.1)])), (a0_stack, .inl (cs.1, 720, .inl (aI a0_stackF))), (a0_result_marks, .inl (cs.1, 360, .inl (aI z14.2)))] [] 110 [.int (iI z16), .ref a0]) h (fun z16 h => ?_) (fun k15 hk15 h => ?_)
          · obtain ⟨r17, hr17, h⟩ := bd_inv h
            refine j_callV (pc := 110) ok (k_X5_endBase (a0 := a0) (a0_signs := a0_signs) (a0_result := a0_result) (a0_stack := a0_stack) (a0_result_marks := a0_result_marks) (a0_length := a0_length) (a0_top := r10.2) (a0_state := a0_state) (a0_bracket := r10.1) (a0_chain := r9.1) (a0_factor := r8.1) (a0_isUnder := z7) (a0_isPlain := a0_isPlain) (a0_script := r4.1) (a0_isBound := z3) (a0_result_size := z14.1) (a0_result_marksF := z14.2) (x1 := z16) hr17) gV_X5_106 ⟨rfl, hd_X5_endBase⟩ [0, 1, 3] (by decide) rfl rfl 0 rfl rfl rfl rfl ⟨Nat.zero_le _, Nat.zero_le _⟩ (Nat.le_of_ble_eq_true rfl) dX5_closesBracket_110 rfl [(a0, .inr (5, [.ref a0_signs, .int (iI a0_length), .ref a0_result, .ref a0_stack, .int (iI r10.2), .int (iI r17.1), .int (iI r10.1), .int (iI r9.1), .int (iI r8.1), .int (iI z7), .int (iI r17.2.1), .int (iI r17.2.2.1), .int (iI z3)])), (a0_result, .inr (3, [.ref a0_result_marks, .int (iI r17.2.2.2.1)])), (a0_stack, .inl (cs.1, 720, .inl (aI a0_stackF))), (a0_result_marks, .inl (cs.1, 360, .inl (aI r17.2.2.2.2)))] rfl ?_
            refine j_iconst (pc := 113) ok dX5_closesBracket_113 ?_
            obtain ⟨hbo, h⟩ := gB_inv h
            obtain rfl := Option.some.inj h
            exact fin _ 114 hbo dX5_closesBracket_114
          · refine j_icmp_ne (pc := 102) 109 ok dX5_closesBracket_102 (by decide) h (fun h => ?_) (fun h => ?_)
            · refine j_iconst (pc := 109) ok dX5_closesBracket_109 ?_
              refine j_lv [] rfl ?_
              exact hk15 0 h
            · refine j_iconst (pc := 105) ok dX5_closesBracket_105 ?_
              refine j_goto (pc := 106) 110 ok dX5_closesBracket_106 (by decide) ?_
              refine j_lv [] rfl ?_
              exact hk15 1 h
        · refine j_if_eq (pc := 85) 99 ok dX5_closesBracket_85 (by decide) h (fun h => ?_) (fun h => ?_)
          · exact hk12 (a0_result_size, a0_result_marksF) h
          · refine j_aload_n (pc := 88) 0 ok dX5_closesBracket_88 rfl rfl ?_
            refine gf_X5_20_5 (pc := 89) 0 ok rfl dX5_closesBracket_89 ?_
            refine j_bipush (pc := 92) ok dX5_closesBracket_92 (by decide) ?_
            refine j_iload_n (pc := 94) 1 ok dX5_closesBracket_94 rfl rfl ?_
            refine j_iadd (pc := 95) ok dX5_closesBracket_95 ?_
            obtain ⟨r13, hr13, h⟩ := bd_inv h
            refine j_callV (pc := 96) ok (k_X3_add (a0 := a0_result) (a0_marks := a0_result_marks) (a0_ci := 3) (a0_fx := []) (a0_marksN := 360) (a0_size := a0_result_size) (a0_marksF := a0_result_marksF) (x1 := 10 + a0_bracket) q_mk3 hr13) gV_X5_94 ⟨rfl, hd_X3_add⟩ [1, 3] (by decide) rfl rfl 1 rfl rfl rfl rfl ⟨Nat.zero_le _, Nat.zero_le _⟩ (Nat.le_of_ble_eq_true rfl) dX5_closesBracket_96 rfl [(a0, .inr (5, [.ref a0_signs, .int (iI a0_length), .ref a0_result, .ref a0_stack, .int (iI r10.2), .int (iI a0_state), .int (iI r10.1), .int (iI r9.1), .int (iI r8.1), .int (iI z7), .int (iI a0_isPlain), .int (iI r4.1), .int (iI z3)])), (a0_result, .inr (3, [.ref a0_result_marks, .int (iI r13.1)])), (a0_stack, .inl (cs.1, 720, .inl (aI a0_stackF))), (a0_result_marks, .inl (cs.1, 360, .inl (aI r13.2)))] rfl ?_
            exact hk12 (r13.1, r13.2) h
      · refine j_icmp_ne (pc := 45) 52 ok dX5_closesBracket_45 (by decide) h (fun h => ?_) (fun h => ?_)
        · refine j_iconst (pc := 52) ok dX5_closesBracket_52 ?_
          exact hk6 0 h
        · refine j_iconst (pc := 48) ok dX5_closesBracket_48 ?_
          refine j_goto (pc := 49) 53 ok dX5_closesBracket_49 (by decide) ?_
          exact hk6 1 h
    · refine j_icmp_ne (pc := 20) 27 ok dX5_closesBracket_20 (by decide) h (fun h => ?_) (fun h => ?_)
      · refine j_iconst (pc := 27) ok dX5_closesBracket_27 ?_
        refine j_lv [1, 0] rfl ?_
        exact hk2 0 h
      · refine j_iconst (pc := 23) ok dX5_closesBracket_23 ?_
        refine j_goto (pc := 24) 28 ok dX5_closesBracket_24 (by decide) ?_
        refine j_lv [1, 0] rfl ?_
        exact hk2 1 h
  · refine j_iconst (pc := 7) ok dX5_closesBracket_7 ?_
    obtain ⟨hbo, h⟩ := gB_inv h
    obtain rfl := Option.some.inj h
    exact fin _ 8 hbo dX5_closesBracket_8
def f_X5_takesElement (a0_top : Int) (a0_state : Int) (a0_bracket : Int) (a0_chain : Int) (a0_factor : Int) (a0_isUnder : Int) (a0_isPlain : Int) (a0_script : Int) (a0_isBound : Int) (a0_result_size : Int) (a0_stackF : (Nat → Int)) (a0_result_marksF : (Nat → Int)) (x1 : Int) : Option (Int × Int × Int × Int × Int × Int × Int × Int × Int × Int × Int × (Nat → Int) × (Nat → Int)) := cEq x1 32 (gB 1 (some (1, a0_top, 0, a0_bracket, a0_chain, a0_factor, a0_isUnder, a0_isPlain, a0_script, a0_isBound, a0_result_size, a0_stackF, a0_result_marksF))) (bd (f_X7_isOperator x1) (fun r1 => cEq r1 0 (cEq x1 41 (bd (f_X5_closesBracket a0_top 0 a0_bracket a0_chain a0_factor a0_isUnder a0_isPlain a0_script a0_isBound a0_result_size a0_stackF a0_result_marksF) (fun r3 => gB r3.1 (some (r3.1, r3.2.1, r3.2.2.1, r3.2.2.2.1, r3.2.2.2.2.1, r3.2.2.2.2.2.1, r3.2.2.2.2.2.2.1, r3.2.2.2.2.2.2.2.1, r3.2.2.2.2.2.2.2.2.1, r3.2.2.2.2.2.2.2.2.2.1, r3.2.2.2.2.2.2.2.2.2.2.1, a0_stackF, r3.2.2.2.2.2.2.2.2.2.2.2)))) (bd (f_X5_takesBase a0_top 0 a0_bracket a0_result_size a0_result_size a0_isUnder a0_isPlain a0_script a0_isBound a0_result_size a0_stackF a0_result_marksF x1) (fun r2 => gB r2.1 (some (r2.1, r2.2.1, r2.2.2.1, r2.2.2.2.1, r2.2.2.2.2.1, r2.2.2.2.2.2.1, r2.2.2.2.2.2.2.1, r2.2.2.2.2.2.2.2.1, r2.2.2.2.2.2.2.2.2.1, r2.2.2.2.2.2.2.2.2.2.1, r2.2.2.2.2.2.2.2.2.2.2.1, r2.2.2.2.2.2.2.2.2.2.2.2.1, r2.2.2.2.2.2.2.2.2.2.2.2.2))))) (bd (f_X3_add 360 a0_result_size a0_result_marksF x1) (fun r4 => gB 1 (some (1, a0_top, 0, a0_bracket, a0_chain, a0_factor, a0_isUnder, a0_isPlain, a0_script, a0_isBound, r4.1, a0_stackF, r4.2))))))
set_option maxRecDepth 100000 in
set_option maxHeartbeats 4000000 in
theorem k_X5_takesElement {D : va_G} {cs : q_CS} {a0 a0_signs a0_result a0_stack a0_result_marks : Nat} {a0_length a0_top a0_state a0_bracket a0_chain a0_factor a0_isUnder a0_isPlain a0_script a0_isBound a0_result_size : Int} {a0_stackF a0_result_marksF : (Nat → Int)} {x1 : Int} {r : (Int × Int × Int × Int × Int × Int × Int × Int × Int × Int × Int × (Nat → Int) × (Nat → Int))} (h : f_X5_takesElement a0_top a0_state a0_bracket a0_chain a0_factor a0_isUnder a0_isPlain a0_script a0_isBound a0_result_size a0_stackF a0_result_marksF x1 = some r) : q_M D cs yX5_takesElement cX5_takesElement 2 (some .boolean) 3 63 [.ref a0, .int (iI x1)] [(a0, .inr (5, [.ref a0_signs, .int (iI a0_length), .ref a0_result, .ref a0_stack, .int (iI a0_top), .int (iI a0_state), .int (iI a0_bracket), .int (iI a0_chain), .int (iI a0_factor), .int (iI a0_isUnder), .int (iI a0_isPlain), .int (iI a0_script), .int (iI a0_isBound)])), (a0_result, .inr (3, [.ref a0_result_marks, .int (iI a0_result_size)])), (a0_stack, .inl (cs.1, 720, .inl (aI a0_stackF))), (a0_result_marks, .inl (cs.1, 360, .inl (aI a0_result_marksF)))] (some (.int (iI r.1))) [(a0, .inr (5, [.ref a0_signs, .int (iI a0_length), .ref a0_result, .ref a0_stack, .int (iI r.2.1), .int (iI r.2.2.1), .int (iI r.2.2.2.1), .int (iI r.2.2.2.2.1), .int (iI r.2.2.2.2.2.1), .int (iI r.2.2.2.2.2.2.1), .int (iI r.2.2.2.2.2.2.2.1), .int (iI r.2.2.2.2.2.2.2.2.1), .int (iI r.2.2.2.2.2.2.2.2.2.1)])), (a0_result, .inr (3, [.ref a0_result_marks, .int (iI r.2.2.2.2.2.2.2.2.2.2.1)])), (a0_stack, .inl (cs.1, 720, .inl (aI r.2.2.2.2.2.2.2.2.2.2.2.1))), (a0_result_marks, .inl (cs.1, 360, .inl (aI r.2.2.2.2.2.2.2.2.2.2.2.2)))] := by
  refine q_start_z [(0, .ref a0), (1, .int (iI x1))] RX5 rfl (by decide +kernel) rfl (Nat.le_of_ble_eq_true rfl) (fun κ ok fin => ?_)
  unfold f_X5_takesElement at h
  refine j_aload_n (pc := 0) 0 ok dX5_takesElement_0 rfl rfl ?_
  refine j_iconst (pc := 1) ok dX5_takesElement_1 ?_
  refine pf_X5_41_5 (pc := 2) 0 ok rfl dX5_takesElement_2 [(a0, .inr (5, [.ref a0_signs, .int (iI a0_length), .ref a0_result, .ref a0_stack, .int (iI a0_top), .int (iI 0), .int (iI a0_bracket), .int (iI a0_chain), .int (iI a0_factor), .int (iI a0_isUnder), .int (iI a0_isPlain), .int (iI a0_script), .int (iI a0_isBound)])), (a0_result, .inr (3, [.ref a0_result_marks, .int (iI a0_result_size)])), (a0_stack, .inl (cs.1, 720, .inl (aI a0_stackF))), (a0_result_marks, .inl (cs.1, 360, .inl (aI a0_result_marksF)))] rfl ?_
  refine j_iload_n (pc := 5) 1 ok dX5_takesElement_5 rfl rfl ?_
  refine j_bipush (pc := 6) ok dX5_takesElement_6 (by decide) ?_
  refine j_icmp_ne (pc := 8) 13 ok dX5_takesElement_8 (by decide) h (fun h => ?_) (fun h => ?_)
  · refine j_iload_n (pc := 13) 1 ok dX5_takesElement_13 rfl rfl ?_
    obtain ⟨r1, hr1, h⟩ := bd_inv h
    refine j_callN (pc := 14) ok (k_X7_isOperator (x0 := x1) hr1) gN_X5_91 gNw_X5_91 gNi_X5_91 gNs_X5_91 hd_X7_isOperator [] (by decide) rfl rfl rfl rfl ⟨Nat.zero_le _, Nat.zero_le _⟩ (Nat.le_of_ble_eq_true rfl) dX5_takesElement_14 rfl [(a0, .inr (5, [.ref a0_signs, .int (iI a0_length), .ref a0_result, .ref a0_stack, .int (iI a0_top), .int (iI 0), .int (iI a0_bracket), .int (iI a0_chain), .int (iI a0_factor), .int (iI a0_isUnder), .int (iI a0_isPlain), .int (iI a0_script), .int (iI a0_isBound)])), (a0_result, .inr (3, [.ref a0_result_marks, .int (iI a0_result_size)])), (a0_stack, .inl (cs.1, 720, .inl (aI a0_stackF))), (a0_result_marks, .inl (cs.1, 360, .inl (aI a0_result_marksF)))] rfl ?_
    refine j_if_eq (pc := 17) 30 ok dX5_takesElement_17 (by decide) h (fun h => ?_) (fun h => ?_)
    · refine j_iload_n (pc := 30) 1 ok dX5_takesElement_30 rfl rfl ?_
      refine j_bipush (pc := 31) ok dX5_takesElement_31 (by decide) ?_
      refine j_icmp_ne (pc := 33) 41 ok dX5_takesElement_33 (by decide) h (fun h => ?_) (fun h => ?_)
      · refine j_aload_n (pc := 41) 0 ok dX5_takesElement_41 rfl rfl ?_
        refine j_aload_n (pc := 42) 0 ok dX5_takesElement_42 rfl rfl ?_
        refine gf_X5_20_5 (pc := 43) 0 ok rfl dX5_takesElement_43 ?_
        refine gf_X5_47_3 (pc := 46) 1 ok rfl dX5_takesElement_46 ?_
        refine pf_X5_56_5 (pc := 49) 0 ok rfl dX5_takesElement_49 [(a0, .inr (5, [.ref a0_signs, .int (iI a0_length), .ref a0_result, .ref a0_stack, .int (iI a0_top), .int (iI 0), .int (iI a0_bracket), .int (iI a0_result_size), .int (iI a0_factor), .int (iI a0_isUnder), .int (iI a0_isPlain), .int (iI a0_script), .int (iI a0_isBound)])), (a0_result, .inr (3, [.ref a0_result_marks, .int (iI a0_result_size)])), (a0_stack, .inl (cs.1, 720, .inl (aI a0_stackF))), (a0_result_marks, .inl (cs.1, 360, .inl (aI a0_result_marksF)))] rfl ?_
        refine j_aload_n (pc := 52) 0 ok dX5_takesElement_52 rfl rfl ?_
        refine j_aload_n (pc := 53) 0 ok dX5_takesElement_53 rfl rfl ?_
        refine gf_X5_20_5 (pc := 54) 0 ok rfl dX5_takesElement_54 ?_
        refine gf_X5_47_3 (pc := 57) 1 ok rfl dX5_takesElement_57 ?_
        refine pf_X5_59_5 (pc := 60) 0 ok rfl dX5_takesElement_60 [(a0, .inr (5, [.ref a0_signs, .int (iI a0_length), .ref a0_result, .ref a0_stack, .int (iI a0_top), .int (iI 0), .int (iI a0_bracket), .int (iI a0_result_size), .int (iI a0_result_size), .int (iI a0_isUnder), .int (iI a0_isPlain), .int (iI a0_script), .int (iI a0_isBound)])), (a0_result, .inr (3, [.ref a0_result_marks, .int (iI a0_result_size)])), (a0_stack, .inl (cs.1, 720, .inl (aI a0_stackF))), (a0_result_marks, .inl (cs.1, 360, .inl (aI a0_result_marksF)))] rfl ?_
        refine j_aload_n (pc := 63) 0 ok dX5_takesElement_63 rfl rfl ?_
        refine j_iload_n (pc := 64) 1 ok dX5_takesElement_64 rfl rfl ?_
        obtain ⟨r2, hr2, h⟩ := bd_inv h
        refine j_callV (pc := 65) ok (k_X5_takesBase (a0 := a0) (a0_signs := a0_signs) (a0_result := a0_result) (a0_stack := a0_stack) (a0_result_marks := a0_result_marks) (a0_length := a0_length) (a0_top := a0_top) (a0_state := 0) (a0_bracket := a0_bracket) (a0_chain := a0_result_size) (a0_factor := a0_result_size) (a0_isUnder := a0_isUnder) (a0_isPlain := a0_isPlain) (a0_script := a0_script) (a0_isBound := a0_isBound) (a0_result_size := a0_result_size) (a0_stackF := a0_stackF) (a0_result_marksF := a0_result_marksF) (x1 := x1) hr2) gV_X5_75 ⟨rfl, hd_X5_takesBase⟩ [0, 1, 2, 3] (by decide) rfl rfl 0 rfl rfl rfl rfl ⟨Nat.zero_le _, Nat.zero_le _⟩ (Nat.le_of_ble_eq_true rfl) dX5_takesElement_65 rfl [(a0, .inr (5, [.ref a0_signs, .int (iI a0_length), .ref a0_result, .ref a0_stack, .int (iI r2.2.1), .int (iI r2.2.2.1), .int (iI r2.2.2.2.1), .int (iI r2.2.2.2.2.1), .int (iI r2.2.2.2.2.2.1), .int (iI r2.2.2.2.2.2.2.1), .int (iI r2.2.2.2.2.2.2.2.1), .int (iI r2.2.2.2.2.2.2.2.2.1), .int (iI r2.2.2.2.2.2.2.2.2.2.1)])), (a0_result, .inr (3, [.ref a0_result_marks, .int (iI r2.2.2.2.2.2.2.2.2.2.2.1)])), (a0_stack, .inl (cs.1, 720, .inl (aI r2.2.2.2.2.2.2.2.2.2.2.2.1))), (a0_result_marks, .inl (cs.1, 360, .inl (aI r2.2.2.2.2.2.2.2.2.2.2.2.2)))] rfl ?_
        obtain ⟨hbo, h⟩ := gB_inv h
        obtain rfl := Option.some.inj h
        exact fin _ 68 hbo dX5_takesElement_68
      · refine j_aload_n (pc := 36) 0 ok dX5_takesElement_36 rfl rfl ?_
        obtain ⟨r3, hr3, h⟩ := bd_inv h
        refine j_callV (pc := 37) ok (k_X5_closesBracket (a0 := a0) (a0_signs := a0_signs) (a0_result := a0_result) (a0_stack := a0_stack) (a0_result_marks := a0_result_marks) (a0_length := a0_length) (a0_top := a0_top) (a0_state := 0) (a0_bracket := a0_bracket) (a0_chain := a0_chain) (a0_factor := a0_factor) (a0_isUnder := a0_isUnder) (a0_isPlain := a0_isPlain) (a0_script := a0_script) (a0_isBound := a0_isBound) (a0_result_size := a0_result_size) (a0_stackF := a0_stackF) (a0_result_marksF := a0_result_marksF) hr3) gV_X5_97 ⟨rfl, hd_X5_closesBracket⟩ [0, 1, 2, 3] (by decide) rfl rfl 0 rfl rfl rfl rfl ⟨Nat.zero_le _, Nat.zero_le _⟩ (Nat.le_of_ble_eq_true rfl) dX5_takesElement_37 rfl [(a0, .inr (5, [.ref a0_signs, .int (iI a0_length), .ref a0_result, .ref a0_stack, .int (iI r3.2.1), .int (iI r3.2.2.1), .int (iI r3.2.2.2.1), .int (iI r3.2.2.2.2.1), .int (iI r3.2.2.2.2.2.1), .int (iI r3.2.2.2.2.2.2.1), .int (iI r3.2.2.2.2.2.2.2.1), .int (iI r3.2.2.2.2.2.2.2.2.1), .int (iI r3.2.2.2.2.2.2.2.2.2.1)])), (a0_result, .inr (3, [.ref a0_result_marks, .int (iI r3.2.2.2.2.2.2.2.2.2.2.1)])), (a0_stack, .inl (cs.1, 720, .inl (aI a0_stackF))), (a0_result_marks, .inl (cs.1, 360, .inl (aI r3.2.2.2.2.2.2.2.2.2.2.2)))] rfl ?_
        obtain ⟨hbo, h⟩ := gB_inv h
        obtain rfl := Option.some.inj h
        exact fin _ 40 hbo dX5_takesElement_40
    · refine j_aload_n (pc := 20) 0 ok dX5_takesElement_20 rfl rfl ?_
      refine gf_X5_20_5 (pc := 21) 0 ok rfl dX5_takesElement_21 ?_
      refine j_iload_n (pc := 24) 1 ok dX5_takesElement_24 rfl rfl ?_
      obtain ⟨r4, hr4, h⟩ := bd_inv h
      refine j_callV (pc := 25) ok (k_X3_add (a0 := a0_result) (a0_marks := a0_result_marks) (a0_ci := 3) (a0_fx := []) (a0_marksN := 360) (a0_size := a0_result_size) (a0_marksF := a0_result_marksF) (x1 := x1) q_mk3 hr4) gV_X5_94 ⟨rfl, hd_X3_add⟩ [1, 3] (by decide) rfl rfl 1 rfl rfl rfl rfl ⟨Nat.zero_le _, Nat.zero_le _⟩ (Nat.le_of_ble_eq_true rfl) dX5_takesElement_25 rfl [(a0, .inr (5, [.ref a0_signs, .int (iI a0_length), .ref a0_result, .ref a0_stack, .int (iI a0_top), .int (iI 0), .int (iI a0_bracket), .int (iI a0_chain), .int (iI a0_factor), .int (iI a0_isUnder), .int (iI a0_isPlain), .int (iI a0_script), .int (iI a0_isBound)])), (a0_result, .inr (3, [.ref a0_result_marks, .int (iI r4.1)])), (a0_stack, .inl (cs.1, 720, .inl (aI a0_stackF))), (a0_result_marks, .inl (cs.1, 360, .inl (aI r4.2)))] rfl ?_
      refine j_iconst (pc := 28) ok dX5_takesElement_28 ?_
      obtain ⟨hbo, h⟩ := gB_inv h
      obtain rfl := Option.some.inj h
      exact fin _ 29 hbo dX5_takesElement_29
  · refine j_iconst (pc := 11) ok dX5_takesElement_11 ?_
    obtain ⟨hbo, h⟩ := gB_inv h
    obtain rfl := Option.some.inj h
    exact fin _ 12 hbo dX5_takesElement_12
def f_X5_takes (a0_top : Int) (a0_state : Int) (a0_bracket : Int) (a0_chain : Int) (a0_factor : Int) (a0_isUnder : Int) (a0_isPlain : Int) (a0_script : Int) (a0_isBound : Int) (a0_result_size : Int) (a0_stackF : (Nat → Int)) (a0_result_marksF : (Nat → Int)) (x1 : Int) : Option (Int × Int × Int × Int × Int × Int × Int × Int × Int × Int × Int × (Nat → Int) × (Nat → Int)) := cEq a0_state 2 (bd (f_X5_takesBase a0_top a0_state a0_bracket a0_chain a0_factor a0_isUnder a0_isPlain a0_script a0_isBound a0_result_size a0_stackF a0_result_marksF x1) (fun r14 => gB r14.1 (some (r14.1, r14.2.1, r14.2.2.1, r14.2.2.2.1, r14.2.2.2.2.1, r14.2.2.2.2.2.1, r14.2.2.2.2.2.2.1, r14.2.2.2.2.2.2.2.1, r14.2.2.2.2.2.2.2.2.1, r14.2.2.2.2.2.2.2.2.2.1, r14.2.2.2.2.2.2.2.2.2.2.1, r14.2.2.2.2.2.2.2.2.2.2.2.1, r14.2.2.2.2.2.2.2.2.2.2.2.2)))) (cEq a0_state 3 (jn (fun (z13 : Int × Int × Int × Int × Int × Int × Int × Int × Int × Int × (Nat → Int) × (Nat → Int) × Int) => gB z13.2.2.2.2.2.2.2.2.2.2.2.2 (some (z13.2.2.2.2.2.2.2.2.2.2.2.2, z13.1, z13.2.1, z13.2.2.1, z13.2.2.2.1, z13.2.2.2.2.1, z13.2.2.2.2.2.1, z13.2.2.2.2.2.2.1, z13.2.2.2.2.2.2.2.1, z13.2.2.2.2.2.2.2.2.1, z13.2.2.2.2.2.2.2.2.2.1, z13.2.2.2.2.2.2.2.2.2.2.1, z13.2.2.2.2.2.2.2.2.2.2.2.1))) (fun k10 => jn (fun (z12 : Int × Int × Int × Int × Int × Int × Int × Int × Int × Int × (Nat → Int) × (Nat → Int)) => k10 (z12.1, z12.2.1, z12.2.2.1, z12.2.2.2.1, z12.2.2.2.2.1, z12.2.2.2.2.2.1, z12.2.2.2.2.2.2.1, z12.2.2.2.2.2.2.2.1, z12.2.2.2.2.2.2.2.2.1, z12.2.2.2.2.2.2.2.2.2.1, z12.2.2.2.2.2.2.2.2.2.2.1, z12.2.2.2.2.2.2.2.2.2.2.2, 0)) (fun k9 => cEq x1 40 (bd (f_X5_opensBracket a0_top a0_state a0_bracket a0_chain a0_factor a0_isUnder a0_isPlain a0_script a0_isBound a0_result_size a0_stackF a0_result_marksF 4) (fun r11 => cEq r11.1 0 (k9 (r11.2.1, r11.2.2.1, r11.2.2.2.1, r11.2.2.2.2.1, r11.2.2.2.2.2.1, r11.2.2.2.2.2.2.1, r11.2.2.2.2.2.2.2.1, r11.2.2.2.2.2.2.2.2.1, r11.2.2.2.2.2.2.2.2.2.1, r11.2.2.2.2.2.2.2.2.2.2.1, r11.2.2.2.2.2.2.2.2.2.2.2.1, r11.2.2.2.2.2.2.2.2.2.2.2.2)) (k10 (r11.2.1, r11.2.2.1, r11.2.2.2.1, r11.2.2.2.2.1, r11.2.2.2.2.2.1, r11.2.2.2.2.2.2.1, r11.2.2.2.2.2.2.2.1, r11.2.2.2.2.2.2.2.2.1, r11.2.2.2.2.2.2.2.2.2.1, r11.2.2.2.2.2.2.2.2.2.2.1, r11.2.2.2.2.2.2.2.2.2.2.2.1, r11.2.2.2.2.2.2.2.2.2.2.2.2, 1)))) (k9 (a0_top, a0_state, a0_bracket, a0_chain, a0_factor, a0_isUnder, a0_isPlain, a0_script, a0_isBound, a0_result_size, a0_stackF, a0_result_marksF))))) (jn (fun (z5 : Unit) => jn (fun (z7 : Int) => bd (f_X5_beginScript a0_state a0_script a0_isBound a0_result_size a0_result_marksF z7) (fun r8 => gB 1 (some (1, a0_top, r8.1, a0_bracket, a0_chain, a0_factor, a0_isUnder, a0_isPlain, r8.2.1, r8.2.2.1, r8.2.2.2.1, a0_stackF, r8.2.2.2.2)))) (fun k6 => cEq x1 94 (k6 2) (k6 3))) (fun k1 => cEq x1 94 (k1 ()) (cEq x1 95 (k1 ()) (cEq x1 47 (bd (f_X5_takesDivision a0_state a0_chain a0_factor a0_isUnder a0_isPlain a0_result_size a0_result_marksF) (fun r4 => gB r4.1 (some (r4.1, a0_top, r4.2.1, a0_bracket, a0_chain, r4.2.2.1, r4.2.2.2.1, r4.2.2.2.2.1, a0_script, a0_isBound, r4.2.2.2.2.2.1, a0_stackF, r4.2.2.2.2.2.2)))) (bd (f_X5_endFactor a0_state a0_factor a0_isUnder a0_isPlain a0_result_size a0_result_marksF) (fun r2 => bd (f_X5_takesElement a0_top a0_state a0_bracket a0_chain a0_factor r2.1 r2.2.1 a0_script a0_isBound r2.2.2.1 a0_stackF r2.2.2.2 x1) (fun r3 => gB r3.1 (some (r3.1, r3.2.1, r3.2.2.1, r3.2.2.2.1, r3.2.2.2.2.1, r3.2.2.2.2.2.1, r3.2.2.2.2.2.2.1, r3.2.2.2.2.2.2.2.1, r3.2.2.2.2.2.2.2.2.1, r3.2.2.2.2.2.2.2.2.2.1, r3.2.2.2.2.2.2.2.2.2.2.1, r3.2.2.2.2.2.2.2.2.2.2.2.1, r3.2.2.2.2.2.2.2.2.2.2.2.2))))))))))
set_option maxRecDepth 100000 in
set_option maxHeartbeats 4000000 in
theorem k_X5_takes {D : va_G} {cs : q_CS} {a0 a0_signs a0_result a0_stack a0_result_marks : Nat} {a0_length a0_top a0_state a0_bracket a0_chain a0_factor a0_isUnder a0_isPlain a0_script a0_isBound a0_result_size : Int} {a0_stackF a0_result_marksF : (Nat → Int)} {x1 : Int} {r : (Int × Int × Int × Int × Int × Int × Int × Int × Int × Int × Int × (Nat → Int) × (Nat → Int))} (h : f_X5_takes a0_top a0_state a0_bracket a0_chain a0_factor a0_isUnder a0_isPlain a0_script a0_isBound a0_result_size a0_stackF a0_result_marksF x1 = some r) : q_M D cs yX5_takes cX5_takes 2 (some .boolean) 4 84 [.ref a0, .int (iI x1)] [(a0, .inr (5, [.ref a0_signs, .int (iI a0_length), .ref a0_result, .ref a0_stack, .int (iI a0_top), .int (iI a0_state), .int (iI a0_bracket), .int (iI a0_chain), .int (iI a0_factor), .int (iI a0_isUnder), .int (iI a0_isPlain), .int (iI a0_script), .int (iI a0_isBound)])), (a0_result, .inr (3, [.ref a0_result_marks, .int (iI a0_result_size)])), (a0_stack, .inl (cs.1, 720, .inl (aI a0_stackF))), (a0_result_marks, .inl (cs.1, 360, .inl (aI a0_result_marksF)))] (some (.int (iI r.1))) [(a0, .inr (5, [.ref a0_signs, .int (iI a0_length), .ref a0_result, .ref a0_stack, .int (iI r.2.1), .int (iI r.2.2.1), .int (iI r.2.2.2.1), .int (iI r.2.2.2.2.1), .int (iI r.2.2.2.2.2.1), .int (iI r.2.2.2.2.2.2.1), .int (iI r.2.2.2.2.2.2.2.1), .int (iI r.2.2.2.2.2.2.2.2.1), .int (iI r.2.2.2.2.2.2.2.2.2.1)])), (a0_result, .inr (3, [.ref a0_result_marks, .int (iI r.2.2.2.2.2.2.2.2.2.2.1)])), (a0_stack, .inl (cs.1, 720, .inl (aI r.2.2.2.2.2.2.2.2.2.2.2.1))), (a0_result_marks, .inl (cs.1, 360, .inl (aI r.2.2.2.2.2.2.2.2.2.2.2.2)))] := by
  refine q_start_z [(0, .ref a0), (1, .int (iI x1))] RX5 rfl (by decide +kernel) rfl (Nat.le_of_ble_eq_true rfl) (fun κ ok fin => ?_)
  unfold f_X5_takes at h
  refine j_aload_n (pc := 0) 0 ok dX5_takes_0 rfl rfl ?_
  refine gf_X5_41_5 (pc := 1) 0 ok rfl dX5_takes_1 ?_
  refine j_iconst (pc := 4) ok dX5_takes_4 ?_
  refine j_icmp_ne (pc := 5) 14 ok dX5_takes_5 (by decide) h (fun h => ?_) (fun h => ?_)
  · refine j_aload_n (pc := 14) 0 ok dX5_takes_14 rfl rfl ?_
    refine gf_X5_41_5 (pc := 15) 0 ok rfl dX5_takes_15 ?_
    refine j_iconst (pc := 18) ok dX5_takes_18 ?_
    refine j_icmp_ne (pc := 19) 42 ok dX5_takes_19 (by decide) h (fun h => ?_) (fun h => ?_)
    · refine j_iload_n (pc := 42) 1 ok dX5_takes_42 rfl rfl ?_
      refine j_bipush (pc := 43) ok dX5_takes_43 (by decide) ?_
      refine jn_use (P := fun z5 => q_J D κ 2 0 0 [(a0, .inr (5, [.ref a0_signs, .int (iI a0_length), .ref a0_result, .ref a0_stack, .int (iI a0_top), .int (iI a0_state), .int (iI a0_bracket), .int (iI a0_chain), .int (iI a0_factor), .int (iI a0_isUnder), .int (iI a0_isPlain), .int (iI a0_script), .int (iI a0_isBound)])), (a0_result, .inr (3, [.ref a0_result_marks, .int (iI a0_result_size)])), (a0_stack, .inl (cs.1, 720, .inl (aI a0_stackF))), (a0_result_marks, .inl (cs.1, 360, .inl (aI a0_result_marksF)))] [(0, .ref a0), (1, .int (iI x1))] 54 []) h (fun z5 h => ?_) (fun k1 hk1 h => ?_)
      · refine j_aload_n (pc := 54) 0 ok dX5_takes_54 rfl rfl ?_
        refine j_iload_n (pc := 55) 1 ok dX5_takes_55 rfl rfl ?_
        refine j_bipush (pc := 56) ok dX5_takes_56 (by decide) ?_
        refine jn_use (P := fun z7 => q_J D κ 2 0 0 [(a0, .inr (5, [.ref a0_signs, .int (iI a0_length), .ref a0_result, .ref a0_stack, .int (iI a0_top), .int (iI a0_state), .int (iI a0_bracket), .int (iI a0_chain), .int (iI a0_factor), .int (iI a0_isUnder), .int (iI a0_isPlain), .int (iI a0_script), .int (iI a0_isBound)])), (a0_result, .inr (3, [.ref a0_result_marks, .int (iI a0_result_size)])), (a0_stack, .inl (cs.1, 720, .inl (aI a0_stackF))), (a0_result_marks, .inl (cs.1, 360, .inl (aI a0_result_marksF)))] [] 66 [.int (iI z7), .ref a0]) h (fun z7 h => ?_) (fun k6 hk6 h => ?_)
        · obtain ⟨r8, hr8, h⟩ := bd_inv h
          refine j_callV (pc := 66) ok (k_X5_beginScript (a0 := a0) (a0_signs := a0_signs) (a0_result := a0_result) (a0_stack := a0_stack) (a0_result_marks := a0_result_marks) (a0_length := a0_length) (a0_top := a0_top) (a0_state := a0_state) (a0_bracket := a0_bracket) (a0_chain := a0_chain) (a0_factor := a0_factor) (a0_isUnder := a0_isUnder) (a0_isPlain := a0_isPlain) (a0_script := a0_script) (a0_isBound := a0_isBound) (a0_result_size := a0_result_size) (a0_result_marksF := a0_result_marksF) (x1 := z7) hr8) gV_X5_81 ⟨rfl, hd_X5_beginScript⟩ [0, 1, 3] (by decide) rfl rfl 0 rfl rfl rfl rfl ⟨Nat.zero_le _, Nat.zero_le _⟩ (Nat.le_of_ble_eq_true rfl) dX5_takes_66 rfl [(a0, .inr (5, [.ref a0_signs, .int (iI a0_length), .ref a0_result, .ref a0_stack, .int (iI a0_top), .int (iI r8.1), .int (iI a0_bracket), .int (iI a0_chain), .int (iI a0_factor), .int (iI a0_isUnder), .int (iI a0_isPlain), .int (iI r8.2.1), .int (iI r8.2.2.1)])), (a0_result, .inr (3, [.ref a0_result_marks, .int (iI r8.2.2.2.1)])), (a0_stack, .inl (cs.1, 720, .inl (aI a0_stackF))), (a0_result_marks, .inl (cs.1, 360, .inl (aI r8.2.2.2.2)))] rfl ?_
          refine j_iconst (pc := 69) ok dX5_takes_69 ?_
          obtain ⟨hbo, h⟩ := gB_inv h
          obtain rfl := Option.some.inj h
          exact fin _ 70 hbo dX5_takes_70
        · refine j_icmp_ne (pc := 58) 65 ok dX5_takes_58 (by decide) h (fun h => ?_) (fun h => ?_)
          · refine j_iconst (pc := 65) ok dX5_takes_65 ?_
            refine j_lv [] rfl ?_
            exact hk6 3 h
          · refine j_iconst (pc := 61) ok dX5_takes_61 ?_
            refine j_goto (pc := 62) 66 ok dX5_takes_62 (by decide) ?_
            refine j_lv [] rfl ?_
            exact hk6 2 h
      · refine j_icmp_eq (pc := 45) 54 ok dX5_takes_45 (by decide) h (fun h => ?_) (fun h => ?_)
        · exact hk1 () h
        · refine j_iload_n (pc := 48) 1 ok dX5_takes_48 rfl rfl ?_
          refine j_bipush (pc := 49) ok dX5_takes_49 (by decide) ?_
          refine j_icmp_ne (pc := 51) 71 ok dX5_takes_51 (by decide) h (fun h => ?_) (fun h => ?_)
          · refine j_iload_n (pc := 71) 1 ok dX5_takes_71 rfl rfl ?_
            refine j_bipush (pc := 72) ok dX5_takes_72 (by decide) ?_
            refine j_icmp_ne (pc := 74) 82 ok dX5_takes_74 (by decide) h (fun h => ?_) (fun h => ?_)
            · refine j_aload_n (pc := 82) 0 ok dX5_takes_82 rfl rfl ?_
              obtain ⟨r2, hr2, h⟩ := bd_inv h
              refine j_callV (pc := 83) ok (k_X5_endFactor (a0 := a0) (a0_signs := a0_signs) (a0_result := a0_result) (a0_stack := a0_stack) (a0_result_marks := a0_result_marks) (a0_length := a0_length) (a0_top := a0_top) (a0_state := a0_state) (a0_bracket := a0_bracket) (a0_chain := a0_chain) (a0_factor := a0_factor) (a0_isUnder := a0_isUnder) (a0_isPlain := a0_isPlain) (a0_script := a0_script) (a0_isBound := a0_isBound) (a0_result_size := a0_result_size) (a0_result_marksF := a0_result_marksF) hr2) gV_X5_44 ⟨rfl, hd_X5_endFactor⟩ [0, 1, 3] (by decide) rfl rfl 0 rfl rfl rfl rfl ⟨Nat.zero_le _, Nat.zero_le _⟩ (Nat.le_of_ble_eq_true rfl) dX5_takes_83 rfl [(a0, .inr (5, [.ref a0_signs, .int (iI a0_length), .ref a0_result, .ref a0_stack, .int (iI a0_top), .int (iI a0_state), .int (iI a0_bracket), .int (iI a0_chain), .int (iI a0_factor), .int (iI r2.1), .int (iI r2.2.1), .int (iI a0_script), .int (iI a0_isBound)])), (a0_result, .inr (3, [.ref a0_result_marks, .int (iI r2.2.2.1)])), (a0_stack, .inl (cs.1, 720, .inl (aI a0_stackF))), (a0_result_marks, .inl (cs.1, 360, .inl (aI r2.2.2.2)))] rfl ?_
              refine j_aload_n (pc := 86) 0 ok dX5_takes_86 rfl rfl ?_
              refine j_iload_n (pc := 87) 1 ok dX5_takes_87 rfl rfl ?_
              obtain ⟨r3, hr3, h⟩ := bd_inv h
              refine j_callV (pc := 88) ok (k_X5_takesElement (a0 := a0) (a0_signs := a0_signs) (a0_result := a0_result) (a0_stack := a0_stack) (a0_result_marks := a0_result_marks) (a0_length := a0_length) (a0_top := a0_top) (a0_state := a0_state) (a0_bracket := a0_bracket) (a0_chain := a0_chain) (a0_factor := a0_factor) (a0_isUnder := r2.1) (a0_isPlain := r2.2.1) (a0_script := a0_script) (a0_isBound := a0_isBound) (a0_result_size := r2.2.2.1) (a0_stackF := a0_stackF) (a0_result_marksF := r2.2.2.2) (x1 := x1) hr3) gV_X5_88 ⟨rfl, hd_X5_takesElement⟩ [0, 1, 2, 3] (by decide) rfl rfl 0 rfl rfl rfl rfl ⟨Nat.zero_le _, Nat.zero_le _⟩ (Nat.le_of_ble_eq_true rfl) dX5_takes_88 rfl [(a0, .inr (5, [.ref a0_signs, .int (iI a0_length), .ref a0_result, .ref a0_stack, .int (iI r3.2.1), .int (iI r3.2.2.1), .int (iI r3.2.2.2.1), .int (iI r3.2.2.2.2.1), .int (iI r3.2.2.2.2.2.1), .int (iI r3.2.2.2.2.2.2.1), .int (iI r3.2.2.2.2.2.2.2.1), .int (iI r3.2.2.2.2.2.2.2.2.1), .int (iI r3.2.2.2.2.2.2.2.2.2.1)])), (a0_result, .inr (3, [.ref a0_result_marks, .int (iI r3.2.2.2.2.2.2.2.2.2.2.1)])), (a0_stack, .inl (cs.1, 720, .inl (aI r3.2.2.2.2.2.2.2.2.2.2.2.1))), (a0_result_marks, .inl (cs.1, 360, .inl (aI r3.2.2.2.2.2.2.2.2.2.2.2.2)))] rfl ?_
              obtain ⟨hbo, h⟩ := gB_inv h
              obtain rfl := Option.some.inj h
              exact fin _ 91 hbo dX5_takes_91
            · refine j_aload_n (pc := 77) 0 ok dX5_takes_77 rfl rfl ?_
              obtain ⟨r4, hr4, h⟩ := bd_inv h
              refine j_callV (pc := 78) ok (k_X5_takesDivision (a0 := a0) (a0_signs := a0_signs) (a0_result := a0_result) (a0_stack := a0_stack) (a0_result_marks := a0_result_marks) (a0_length := a0_length) (a0_top := a0_top) (a0_state := a0_state) (a0_bracket := a0_bracket) (a0_chain := a0_chain) (a0_factor := a0_factor) (a0_isUnder := a0_isUnder) (a0_isPlain := a0_isPlain) (a0_script := a0_script) (a0_isBound := a0_isBound) (a0_result_size := a0_result_size) (a0_result_marksF := a0_result_marksF) hr4) gV_X5_84 ⟨rfl, hd_X5_takesDivision⟩ [0, 1, 3] (by decide) rfl rfl 0 rfl rfl rfl rfl ⟨Nat.zero_le _, Nat.zero_le _⟩ (Nat.le_of_ble_eq_true rfl) dX5_takes_78 rfl [(a0, .inr (5, [.ref a0_signs, .int (iI a0_length), .ref a0_result, .ref a0_stack, .int (iI a0_top), .int (iI r4.2.1), .int (iI a0_bracket), .int (iI a0_chain), .int (iI r4.2.2.1), .int (iI r4.2.2.2.1), .int (iI r4.2.2.2.2.1), .int (iI a0_script), .int (iI a0_isBound)])), (a0_result, .inr (3, [.ref a0_result_marks, .int (iI r4.2.2.2.2.2.1)])), (a0_stack, .inl (cs.1, 720, .inl (aI a0_stackF))), (a0_result_marks, .inl (cs.1, 360, .inl (aI r4.2.2.2.2.2.2)))] rfl ?_
              obtain ⟨hbo, h⟩ := gB_inv h
              obtain rfl := Option.some.inj h
              exact fin _ 81 hbo dX5_takes_81
          · exact hk1 () h
    · refine j_iload_n (pc := 22) 1 ok dX5_takes_22 rfl rfl ?_
      refine j_bipush (pc := 23) ok dX5_takes_23 (by decide) ?_
      refine jn_use (P := fun z13 => q_J D κ 2 0 0 [(a0, .inr (5, [.ref a0_signs, .int (iI a0_length), .ref a0_result, .ref a0_stack, .int (iI z13.1), .int (iI z13.2.1), .int (iI z13.2.2.1), .int (iI z13.2.2.2.1), .int (iI z13.2.2.2.2.1), .int (iI z13.2.2.2.2.2.1), .int (iI z13.2.2.2.2.2.2.1), .int (iI z13.2.2.2.2.2.2.2.1), .int (iI z13.2.2.2.2.2.2.2.2.1)])), (a0_result, .inr (3, [.ref a0_result_marks, .int (iI z13.2.2.2.2.2.2.2.2.2.1)])), (a0_stack, .inl (cs.1, 720, .inl (aI z13.2.2.2.2.2.2.2.2.2.2.1))), (a0_result_marks, .inl (cs.1, 360, .inl (aI z13.2.2.2.2.2.2.2.2.2.2.2.1)))] [] 41 [.int (iI z13.2.2.2.2.2.2.2.2.2.2.2.2)]) h (fun z13 h => ?_) (fun k10 hk10 h => ?_)
      · obtain ⟨hbo, h⟩ := gB_inv h
        obtain rfl := Option.some.inj h
        exact fin _ 41 hbo dX5_takes_41
      · refine jn_use (P := fun z12 => q_J D κ 2 0 0 [(a0, .inr (5, [.ref a0_signs, .int (iI a0_length), .ref a0_result, .ref a0_stack, .int (iI z12.1), .int (iI z12.2.1), .int (iI z12.2.2.1), .int (iI z12.2.2.2.1), .int (iI z12.2.2.2.2.1), .int (iI z12.2.2.2.2.2.1), .int (iI z12.2.2.2.2.2.2.1), .int (iI z12.2.2.2.2.2.2.2.1), .int (iI z12.2.2.2.2.2.2.2.2.1)])), (a0_result, .inr (3, [.ref a0_result_marks, .int (iI z12.2.2.2.2.2.2.2.2.2.1)])), (a0_stack, .inl (cs.1, 720, .inl (aI z12.2.2.2.2.2.2.2.2.2.2.1))), (a0_result_marks, .inl (cs.1, 360, .inl (aI z12.2.2.2.2.2.2.2.2.2.2.2)))] [] 40 []) h (fun z12 h => ?_) (fun k9 hk9 h => ?_)
        · refine j_iconst (pc := 40) ok dX5_takes_40 ?_
          exact hk10 (z12.1, z12.2.1, z12.2.2.1, z12.2.2.2.1, z12.2.2.2.2.1, z12.2.2.2.2.2.1, z12.2.2.2.2.2.2.1, z12.2.2.2.2.2.2.2.1, z12.2.2.2.2.2.2.2.2.1, z12.2.2.2.2.2.2.2.2.2.1, z12.2.2.2.2.2.2.2.2.2.2.1, z12.2.2.2.2.2.2.2.2.2.2.2, 0) h
        · refine j_icmp_ne (pc := 25) 40 ok dX5_takes_25 (by decide) h (fun h => ?_) (fun h => ?_)
          · refine j_lv [] rfl ?_
            exact hk9 (a0_top, a0_state, a0_bracket, a0_chain, a0_factor, a0_isUnder, a0_isPlain, a0_script, a0_isBound, a0_result_size, a0_stackF, a0_result_marksF) h
          · refine j_aload_n (pc := 28) 0 ok dX5_takes_28 rfl rfl ?_
            refine j_iconst (pc := 29) ok dX5_takes_29 ?_
            obtain ⟨r11, hr11, h⟩ := bd_inv h
            refine j_callV (pc := 30) ok (k_X5_opensBracket (a0 := a0) (a0_signs := a0_signs) (a0_result := a0_result) (a0_stack := a0_stack) (a0_result_marks := a0_result_marks) (a0_length := a0_length) (a0_top := a0_top) (a0_state := a0_state) (a0_bracket := a0_bracket) (a0_chain := a0_chain) (a0_factor := a0_factor) (a0_isUnder := a0_isUnder) (a0_isPlain := a0_isPlain) (a0_script := a0_script) (a0_isBound := a0_isBound) (a0_result_size := a0_result_size) (a0_stackF := a0_stackF) (a0_result_marksF := a0_result_marksF) (x1 := 4) hr11) gV_X5_78 ⟨rfl, hd_X5_opensBracket⟩ [0, 1, 2, 3] (by decide) rfl rfl 0 rfl rfl rfl rfl ⟨Nat.zero_le _, Nat.zero_le _⟩ (Nat.le_of_ble_eq_true rfl) dX5_takes_30 rfl [(a0, .inr (5, [.ref a0_signs, .int (iI a0_length), .ref a0_result, .ref a0_stack, .int (iI r11.2.1), .int (iI r11.2.2.1), .int (iI r11.2.2.2.1), .int (iI r11.2.2.2.2.1), .int (iI r11.2.2.2.2.2.1), .int (iI r11.2.2.2.2.2.2.1), .int (iI r11.2.2.2.2.2.2.2.1), .int (iI r11.2.2.2.2.2.2.2.2.1), .int (iI r11.2.2.2.2.2.2.2.2.2.1)])), (a0_result, .inr (3, [.ref a0_result_marks, .int (iI r11.2.2.2.2.2.2.2.2.2.2.1)])), (a0_stack, .inl (cs.1, 720, .inl (aI r11.2.2.2.2.2.2.2.2.2.2.2.1))), (a0_result_marks, .inl (cs.1, 360, .inl (aI r11.2.2.2.2.2.2.2.2.2.2.2.2)))] rfl ?_
            refine j_if_eq (pc := 33) 40 ok dX5_takes_33 (by decide) h (fun h => ?_) (fun h => ?_)
            · refine j_lv [] rfl ?_
              exact hk9 (r11.2.1, r11.2.2.1, r11.2.2.2.1, r11.2.2.2.2.1, r11.2.2.2.2.2.1, r11.2.2.2.2.2.2.1, r11.2.2.2.2.2.2.2.1, r11.2.2.2.2.2.2.2.2.1, r11.2.2.2.2.2.2.2.2.2.1, r11.2.2.2.2.2.2.2.2.2.2.1, r11.2.2.2.2.2.2.2.2.2.2.2.1, r11.2.2.2.2.2.2.2.2.2.2.2.2) h
            · refine j_iconst (pc := 36) ok dX5_takes_36 ?_
              refine j_goto (pc := 37) 41 ok dX5_takes_37 (by decide) ?_
              refine j_lv [] rfl ?_
              exact hk10 (r11.2.1, r11.2.2.1, r11.2.2.2.1, r11.2.2.2.2.1, r11.2.2.2.2.2.1, r11.2.2.2.2.2.2.1, r11.2.2.2.2.2.2.2.1, r11.2.2.2.2.2.2.2.2.1, r11.2.2.2.2.2.2.2.2.2.1, r11.2.2.2.2.2.2.2.2.2.2.1, r11.2.2.2.2.2.2.2.2.2.2.2.1, r11.2.2.2.2.2.2.2.2.2.2.2.2, 1) h
  · refine j_aload_n (pc := 8) 0 ok dX5_takes_8 rfl rfl ?_
    refine j_iload_n (pc := 9) 1 ok dX5_takes_9 rfl rfl ?_
    obtain ⟨r14, hr14, h⟩ := bd_inv h
    refine j_callV (pc := 10) ok (k_X5_takesBase (a0 := a0) (a0_signs := a0_signs) (a0_result := a0_result) (a0_stack := a0_stack) (a0_result_marks := a0_result_marks) (a0_length := a0_length) (a0_top := a0_top) (a0_state := a0_state) (a0_bracket := a0_bracket) (a0_chain := a0_chain) (a0_factor := a0_factor) (a0_isUnder := a0_isUnder) (a0_isPlain := a0_isPlain) (a0_script := a0_script) (a0_isBound := a0_isBound) (a0_result_size := a0_result_size) (a0_stackF := a0_stackF) (a0_result_marksF := a0_result_marksF) (x1 := x1) hr14) gV_X5_75 ⟨rfl, hd_X5_takesBase⟩ [0, 1, 2, 3] (by decide) rfl rfl 0 rfl rfl rfl rfl ⟨Nat.zero_le _, Nat.zero_le _⟩ (Nat.le_of_ble_eq_true rfl) dX5_takes_10 rfl [(a0, .inr (5, [.ref a0_signs, .int (iI a0_length), .ref a0_result, .ref a0_stack, .int (iI r14.2.1), .int (iI r14.2.2.1), .int (iI r14.2.2.2.1), .int (iI r14.2.2.2.2.1), .int (iI r14.2.2.2.2.2.1), .int (iI r14.2.2.2.2.2.2.1), .int (iI r14.2.2.2.2.2.2.2.1), .int (iI r14.2.2.2.2.2.2.2.2.1), .int (iI r14.2.2.2.2.2.2.2.2.2.1)])), (a0_result, .inr (3, [.ref a0_result_marks, .int (iI r14.2.2.2.2.2.2.2.2.2.2.1)])), (a0_stack, .inl (cs.1, 720, .inl (aI r14.2.2.2.2.2.2.2.2.2.2.2.1))), (a0_result_marks, .inl (cs.1, 360, .inl (aI r14.2.2.2.2.2.2.2.2.2.2.2.2)))] rfl ?_
    obtain ⟨hbo, h⟩ := gB_inv h
    obtain rfl := Option.some.inj h
    exact fin _ 13 hbo dX5_takes_13
def f_X5_firstError_6 (a0_length : Int) (a0_signsF : (Nat → Int)) (e6_44 : Int × Int × Int × Int × Int × Int × Int × Int × Int × Int × (Nat → Int) × (Nat → Int) × Int → Option (Int × Int × Int × Int × Int × Int × Int × Int × Int × Int × Int × (Nat → Int) × (Nat → Int))) : Nat → Int → Int → Int → Int → Int → Int → Int → Int → Int → Int → (Nat → Int) → (Nat → Int) → Int → Option (Int × Int × Int × Int × Int × Int × Int × Int × Int × Int × Int × (Nat → Int) × (Nat → Int))
  | 0, _, _, _, _, _, _, _, _, _, _, _, _, _ => none
  | n + 1, a0_top, a0_state, a0_bracket, a0_chain, a0_factor, a0_isUnder, a0_isPlain, a0_script, a0_isBound, a0_result_size, a0_stackF, a0_result_marksF, y1 => cLt y1 a0_length (cLt y1 120 (gIn y1 120 (bd (f_X5_takes a0_top a0_state a0_bracket a0_chain a0_factor a0_isUnder a0_isPlain a0_script a0_isBound a0_result_size a0_stackF a0_result_marksF (a0_signsF y1.toNat)) (fun r2 => cEq r2.1 0 (some (y1, r2.2.1, r2.2.2.1, r2.2.2.2.1, r2.2.2.2.2.1, r2.2.2.2.2.2.1, r2.2.2.2.2.2.2.1, r2.2.2.2.2.2.2.2.1, r2.2.2.2.2.2.2.2.2.1, r2.2.2.2.2.2.2.2.2.2.1, r2.2.2.2.2.2.2.2.2.2.2.1, r2.2.2.2.2.2.2.2.2.2.2.2.1, r2.2.2.2.2.2.2.2.2.2.2.2.2)) (f_X5_firstError_6 a0_length a0_signsF e6_44 n r2.2.1 r2.2.2.1 r2.2.2.2.1 r2.2.2.2.2.1 r2.2.2.2.2.2.1 r2.2.2.2.2.2.2.1 r2.2.2.2.2.2.2.2.1 r2.2.2.2.2.2.2.2.2.1 r2.2.2.2.2.2.2.2.2.2.1 r2.2.2.2.2.2.2.2.2.2.2.1 r2.2.2.2.2.2.2.2.2.2.2.2.1 r2.2.2.2.2.2.2.2.2.2.2.2.2 (y1 + 1))))) (e6_44 (a0_top, a0_state, a0_bracket, a0_chain, a0_factor, a0_isUnder, a0_isPlain, a0_script, a0_isBound, a0_result_size, a0_stackF, a0_result_marksF, y1))) (e6_44 (a0_top, a0_state, a0_bracket, a0_chain, a0_factor, a0_isUnder, a0_isPlain, a0_script, a0_isBound, a0_result_size, a0_stackF, a0_result_marksF, y1))
set_option maxRecDepth 100000 in
theorem l_X5_firstError_6 {D : va_G} {cs : q_CS} {κ : q_X} {a0 a0_signs a0_result a0_stack a0_result_marks : Nat} {a0_length : Int} {a0_signsF : (Nat → Int)} {r : (Int × Int × Int × Int × Int × Int × Int × Int × Int × Int × Int × (Nat → Int) × (Nat → Int))} {e6_44 : Int × Int × Int × Int × Int × Int × Int × Int × Int × Int × (Nat → Int) × (Nat → Int) × Int → Option (Int × Int × Int × Int × Int × Int × Int × Int × Int × Int × Int × (Nat → Int) × (Nat → Int))} (ok : q_ok D cs κ cX5_firstError 2 RX5 (q_rm 5 105)) (fin : ∀ (lv : List (Nat × Value)) (pc : Nat), decode cX5_firstError pc = .ok (.ireturn, 1) → q_J D κ 2 0 0 [(a0, .inr (5, [.ref a0_signs, .int (iI a0_length), .ref a0_result, .ref a0_stack, .int (iI r.2.1), .int (iI r.2.2.1), .int (iI r.2.2.2.1), .int (iI r.2.2.2.2.1), .int (iI r.2.2.2.2.2.1), .int (iI r.2.2.2.2.2.2.1), .int (iI r.2.2.2.2.2.2.2.1), .int (iI r.2.2.2.2.2.2.2.2.1), .int (iI r.2.2.2.2.2.2.2.2.2.1)])), (a0_result, .inr (3, [.ref a0_result_marks, .int (iI r.2.2.2.2.2.2.2.2.2.2.1)])), (a0_signs, .inl (cs.1, 120, .inl (aI a0_signsF))), (a0_stack, .inl (cs.1, 720, .inl (aI r.2.2.2.2.2.2.2.2.2.2.2.1))), (a0_result_marks, .inl (cs.1, 360, .inl (aI r.2.2.2.2.2.2.2.2.2.2.2.2)))] lv pc [.int (iI r.1)]) (he6_44 : ∀ x : Int × Int × Int × Int × Int × Int × Int × Int × Int × Int × (Nat → Int) × (Nat → Int) × Int, e6_44 x = some r → q_J D κ 2 0 0 [(a0, .inr (5, [.ref a0_signs, .int (iI a0_length), .ref a0_result, .ref a0_stack, .int (iI x.1), .int (iI x.2.1), .int (iI x.2.2.1), .int (iI x.2.2.2.1), .int (iI x.2.2.2.2.1), .int (iI x.2.2.2.2.2.1), .int (iI x.2.2.2.2.2.2.1), .int (iI x.2.2.2.2.2.2.2.1), .int (iI x.2.2.2.2.2.2.2.2.1)])), (a0_result, .inr (3, [.ref a0_result_marks, .int (iI x.2.2.2.2.2.2.2.2.2.1)])), (a0_signs, .inl (cs.1, 120, .inl (aI a0_signsF))), (a0_stack, .inl (cs.1, 720, .inl (aI x.2.2.2.2.2.2.2.2.2.2.1))), (a0_result_marks, .inl (cs.1, 360, .inl (aI x.2.2.2.2.2.2.2.2.2.2.2.1)))] [(0, .ref a0)] 44 []) : ∀ (n : Nat) (a0_top : Int) (a0_state : Int) (a0_bracket : Int) (a0_chain : Int) (a0_factor : Int) (a0_isUnder : Int) (a0_isPlain : Int) (a0_script : Int) (a0_isBound : Int) (a0_result_size : Int) (a0_stackF : (Nat → Int)) (a0_result_marksF : (Nat → Int)) (y1 : Int), f_X5_firstError_6 a0_length a0_signsF e6_44 n a0_top a0_state a0_bracket a0_chain a0_factor a0_isUnder a0_isPlain a0_script a0_isBound a0_result_size a0_stackF a0_result_marksF y1 = some r → q_J D κ 2 0 0 [(a0, .inr (5, [.ref a0_signs, .int (iI a0_length), .ref a0_result, .ref a0_stack, .int (iI a0_top), .int (iI a0_state), .int (iI a0_bracket), .int (iI a0_chain), .int (iI a0_factor), .int (iI a0_isUnder), .int (iI a0_isPlain), .int (iI a0_script), .int (iI a0_isBound)])), (a0_result, .inr (3, [.ref a0_result_marks, .int (iI a0_result_size)])), (a0_signs, .inl (cs.1, 120, .inl (aI a0_signsF))), (a0_stack, .inl (cs.1, 720, .inl (aI a0_stackF))), (a0_result_marks, .inl (cs.1, 360, .inl (aI a0_result_marksF)))] [(0, .ref a0), (1, .int (iI y1))] 6 [] := by
  intro n
  induction n with
  | zero =>
    intro a0_top a0_state a0_bracket a0_chain a0_factor a0_isUnder a0_isPlain a0_script a0_isBound a0_result_size a0_stackF a0_result_marksF y1 h
    exact absurd h (by unfold f_X5_firstError_6; exact fun z => by cases z)
  | succ n ih =>
    intro a0_top a0_state a0_bracket a0_chain a0_factor a0_isUnder a0_isPlain a0_script a0_isBound a0_result_size a0_stackF a0_result_marksF y1 h
    unfold f_X5_firstError_6 at h
    refine j_iload_n (pc := 6) 1 ok dX5_firstError_6 rfl rfl ?_
    refine j_aload_n (pc := 7) 0 ok dX5_firstError_7 rfl rfl ?_
    refine gf_X5_27_5 (pc := 8) 0 ok rfl dX5_firstError_8 ?_
    refine j_icmp_ge (pc := 11) 44 ok dX5_firstError_11 (by decide) h (fun h => ?_) (fun h => ?_)
    · refine j_lv [0] rfl ?_
      exact he6_44 (a0_top, a0_state, a0_bracket, a0_chain, a0_factor, a0_isUnder, a0_isPlain, a0_script, a0_isBound, a0_result_size, a0_stackF, a0_result_marksF, y1) h
    · refine j_iload_n (pc := 14) 1 ok dX5_firstError_14 rfl rfl ?_
      refine j_aload_n (pc := 15) 0 ok dX5_firstError_15 rfl rfl ?_
      refine gf_X5_9_5 (pc := 16) 0 ok rfl dX5_firstError_16 ?_
      refine j_alen (pc := 19) 2 0 ok rfl rfl dX5_firstError_19 ?_
      refine j_icmp_ge (pc := 20) 44 ok dX5_firstError_20 (by decide) h (fun h => ?_) (fun h => ?_)
      · refine j_lv [0] rfl ?_
        exact he6_44 (a0_top, a0_state, a0_bracket, a0_chain, a0_factor, a0_isUnder, a0_isPlain, a0_script, a0_isBound, a0_result_size, a0_stackF, a0_result_marksF, y1) h
      · refine j_aload_n (pc := 23) 0 ok dX5_firstError_23 rfl rfl ?_
        refine j_aload_n (pc := 24) 0 ok dX5_firstError_24 rfl rfl ?_
        refine gf_X5_9_5 (pc := 25) 0 ok rfl dX5_firstError_25 ?_
        refine j_iload_n (pc := 28) 1 ok dX5_firstError_28 rfl rfl ?_
        refine j_iald (pc := 29) 2 ok rfl dX5_firstError_29 h (fun h => ?_)
        obtain ⟨r2, hr2, h⟩ := bd_inv h
        refine j_callV (pc := 30) ok (k_X5_takes (a0 := a0) (a0_signs := a0_signs) (a0_result := a0_result) (a0_stack := a0_stack) (a0_result_marks := a0_result_marks) (a0_length := a0_length) (a0_top := a0_top) (a0_state := a0_state) (a0_bracket := a0_bracket) (a0_chain := a0_chain) (a0_factor := a0_factor) (a0_isUnder := a0_isUnder) (a0_isPlain := a0_isPlain) (a0_script := a0_script) (a0_isBound := a0_isBound) (a0_result_size := a0_result_size) (a0_stackF := a0_stackF) (a0_result_marksF := a0_result_marksF) (x1 := a0_signsF y1.toNat) hr2) gV_X5_34 ⟨rfl, hd_X5_takes⟩ [0, 1, 3, 4] (by decide) rfl rfl 0 rfl rfl rfl rfl ⟨Nat.zero_le _, Nat.zero_le _⟩ (Nat.le_of_ble_eq_true rfl) dX5_firstError_30 rfl [(a0, .inr (5, [.ref a0_signs, .int (iI a0_length), .ref a0_result, .ref a0_stack, .int (iI r2.2.1), .int (iI r2.2.2.1), .int (iI r2.2.2.2.1), .int (iI r2.2.2.2.2.1), .int (iI r2.2.2.2.2.2.1), .int (iI r2.2.2.2.2.2.2.1), .int (iI r2.2.2.2.2.2.2.2.1), .int (iI r2.2.2.2.2.2.2.2.2.1), .int (iI r2.2.2.2.2.2.2.2.2.2.1)])), (a0_result, .inr (3, [.ref a0_result_marks, .int (iI r2.2.2.2.2.2.2.2.2.2.2.1)])), (a0_signs, .inl (cs.1, 120, .inl (aI a0_signsF))), (a0_stack, .inl (cs.1, 720, .inl (aI r2.2.2.2.2.2.2.2.2.2.2.2.1))), (a0_result_marks, .inl (cs.1, 360, .inl (aI r2.2.2.2.2.2.2.2.2.2.2.2.2)))] rfl ?_
        refine j_if_ne (pc := 33) 38 ok dX5_firstError_33 (by decide) h (fun h => ?_) (fun h => ?_)
        · refine j_iinc (pc := 38) (lv' := [(1, .int (iI (y1 + 1))), (0, .ref a0)]) 1 ok dX5_firstError_38 rfl (by decide) rfl ?_
          refine j_goto (pc := 41) 6 ok dX5_firstError_41 (by decide) ?_
          refine j_lv [1, 0] rfl ?_
          exact ih _ _ _ _ _ _ _ _ _ _ _ _ _ h
        · refine j_iload_n (pc := 36) 1 ok dX5_firstError_36 rfl rfl ?_
          obtain rfl := Option.some.inj h
          exact fin _ 37 dX5_firstError_37
def f_X5_firstError (a0_length : Int) (a0_top : Int) (a0_state : Int) (a0_bracket : Int) (a0_chain : Int) (a0_factor : Int) (a0_isUnder : Int) (a0_isPlain : Int) (a0_script : Int) (a0_isBound : Int) (a0_result_size : Int) (a0_signsF : (Nat → Int)) (a0_stackF : (Nat → Int)) (a0_result_marksF : (Nat → Int)) : Option (Int × Int × Int × Int × Int × Int × Int × Int × Int × Int × Int × (Nat → Int) × (Nat → Int)) := bd (f_X5_begin a0_top a0_state a0_bracket a0_chain a0_factor a0_isUnder a0_isPlain a0_script a0_isBound a0_result_size) (fun r1 => f_X5_firstError_6 a0_length a0_signsF (fun (z3 : Int × Int × Int × Int × Int × Int × Int × Int × Int × Int × (Nat → Int) × (Nat → Int) × Int) => jn (fun (z6 : Unit) => some (a0_length, z3.1, z3.2.1, z3.2.2.1, z3.2.2.2.1, z3.2.2.2.2.1, z3.2.2.2.2.2.1, z3.2.2.2.2.2.2.1, z3.2.2.2.2.2.2.2.1, z3.2.2.2.2.2.2.2.2.1, z3.2.2.2.2.2.2.2.2.2.1, z3.2.2.2.2.2.2.2.2.2.2.1, z3.2.2.2.2.2.2.2.2.2.2.2.1)) (fun k4 => cEq z3.2.2.1 0 (cEq z3.2.1 2 (k4 ()) (cEq z3.2.1 3 (k4 ()) (bd (f_X5_endFactor z3.2.1 z3.2.2.2.2.1 z3.2.2.2.2.2.1 z3.2.2.2.2.2.2.1 z3.2.2.2.2.2.2.2.2.2.1 z3.2.2.2.2.2.2.2.2.2.2.2.1) (fun r5 => some ((-9), z3.1, z3.2.1, z3.2.2.1, z3.2.2.2.1, z3.2.2.2.2.1, r5.1, r5.2.1, z3.2.2.2.2.2.2.2.1, z3.2.2.2.2.2.2.2.2.1, r5.2.2.1, z3.2.2.2.2.2.2.2.2.2.2.1, r5.2.2.2))))) (k4 ()))) fuel r1.1 r1.2.1 r1.2.2.1 r1.2.2.2.1 r1.2.2.2.2.1 r1.2.2.2.2.2.1 r1.2.2.2.2.2.2.1 r1.2.2.2.2.2.2.2.1 r1.2.2.2.2.2.2.2.2.1 r1.2.2.2.2.2.2.2.2.2 a0_stackF a0_result_marksF 0)
set_option maxRecDepth 100000 in
set_option maxHeartbeats 4000000 in
theorem k_X5_firstError {D : va_G} {cs : q_CS} {a0 a0_signs a0_result a0_stack a0_result_marks : Nat} {a0_length a0_top a0_state a0_bracket a0_chain a0_factor a0_isUnder a0_isPlain a0_script a0_isBound a0_result_size : Int} {a0_signsF a0_stackF a0_result_marksF : (Nat → Int)} {r : (Int × Int × Int × Int × Int × Int × Int × Int × Int × Int × Int × (Nat → Int) × (Nat → Int))} (h : f_X5_firstError a0_length a0_top a0_state a0_bracket a0_chain a0_factor a0_isUnder a0_isPlain a0_script a0_isBound a0_result_size a0_signsF a0_stackF a0_result_marksF = some r) : q_M D cs yX5_firstError cX5_firstError 2 (some .int) 5 105 [.ref a0] [(a0, .inr (5, [.ref a0_signs, .int (iI a0_length), .ref a0_result, .ref a0_stack, .int (iI a0_top), .int (iI a0_state), .int (iI a0_bracket), .int (iI a0_chain), .int (iI a0_factor), .int (iI a0_isUnder), .int (iI a0_isPlain), .int (iI a0_script), .int (iI a0_isBound)])), (a0_result, .inr (3, [.ref a0_result_marks, .int (iI a0_result_size)])), (a0_signs, .inl (cs.1, 120, .inl (aI a0_signsF))), (a0_stack, .inl (cs.1, 720, .inl (aI a0_stackF))), (a0_result_marks, .inl (cs.1, 360, .inl (aI a0_result_marksF)))] (some (.int (iI r.1))) [(a0, .inr (5, [.ref a0_signs, .int (iI a0_length), .ref a0_result, .ref a0_stack, .int (iI r.2.1), .int (iI r.2.2.1), .int (iI r.2.2.2.1), .int (iI r.2.2.2.2.1), .int (iI r.2.2.2.2.2.1), .int (iI r.2.2.2.2.2.2.1), .int (iI r.2.2.2.2.2.2.2.1), .int (iI r.2.2.2.2.2.2.2.2.1), .int (iI r.2.2.2.2.2.2.2.2.2.1)])), (a0_result, .inr (3, [.ref a0_result_marks, .int (iI r.2.2.2.2.2.2.2.2.2.2.1)])), (a0_signs, .inl (cs.1, 120, .inl (aI a0_signsF))), (a0_stack, .inl (cs.1, 720, .inl (aI r.2.2.2.2.2.2.2.2.2.2.2.1))), (a0_result_marks, .inl (cs.1, 360, .inl (aI r.2.2.2.2.2.2.2.2.2.2.2.2)))] := by
  refine q_start_i [(0, .ref a0)] RX5 rfl (by decide +kernel) rfl (Nat.le_of_ble_eq_true rfl) rfl (fun κ ok fin => ?_)
  unfold f_X5_firstError at h
  refine j_aload_n (pc := 0) 0 ok dX5_firstError_0 rfl rfl ?_
  obtain ⟨r1, hr1, h⟩ := bd_inv h
  refine j_callV (pc := 1) ok (k_X5_begin (a0 := a0) (a0_signs := a0_signs) (a0_result := a0_result) (a0_stack := a0_stack) (a0_result_marks := a0_result_marks) (a0_length := a0_length) (a0_top := a0_top) (a0_state := a0_state) (a0_bracket := a0_bracket) (a0_chain := a0_chain) (a0_factor := a0_factor) (a0_isUnder := a0_isUnder) (a0_isPlain := a0_isPlain) (a0_script := a0_script) (a0_isBound := a0_isBound) (a0_result_size := a0_result_size) hr1) gV_X5_31 ⟨rfl, hd_X5_begin⟩ [0, 1] (by decide) rfl rfl 0 rfl rfl rfl rfl ⟨Nat.zero_le _, Nat.zero_le _⟩ (Nat.le_of_ble_eq_true rfl) dX5_firstError_1 rfl [(a0, .inr (5, [.ref a0_signs, .int (iI a0_length), .ref a0_result, .ref a0_stack, .int (iI r1.1), .int (iI r1.2.1), .int (iI r1.2.2.1), .int (iI r1.2.2.2.1), .int (iI r1.2.2.2.2.1), .int (iI r1.2.2.2.2.2.1), .int (iI r1.2.2.2.2.2.2.1), .int (iI r1.2.2.2.2.2.2.2.1), .int (iI r1.2.2.2.2.2.2.2.2.1)])), (a0_result, .inr (3, [.ref a0_result_marks, .int (iI r1.2.2.2.2.2.2.2.2.2)])), (a0_signs, .inl (cs.1, 120, .inl (aI a0_signsF))), (a0_stack, .inl (cs.1, 720, .inl (aI a0_stackF))), (a0_result_marks, .inl (cs.1, 360, .inl (aI a0_result_marksF)))] rfl ?_
  refine j_iconst (pc := 4) ok dX5_firstError_4 ?_
  refine j_istore_n (pc := 5) (lv' := [(1, .int (iI 0)), (0, .ref a0)]) ok dX5_firstError_5 rfl (by decide) rfl ?_
  refine j_lv [1, 0] rfl ?_
  refine l_X5_firstError_6 ok fin (fun z3 h => ?_) fuel _ _ _ _ _ _ _ _ _ _ _ _ _ h
  · refine j_aload_n (pc := 44) 0 ok dX5_firstError_44 rfl rfl ?_
    refine gf_X5_38_5 (pc := 45) 0 ok rfl dX5_firstError_45 ?_
    refine jn_use (P := fun z6 => q_J D κ 2 0 0 [(a0, .inr (5, [.ref a0_signs, .int (iI a0_length), .ref a0_result, .ref a0_stack, .int (iI z3.1), .int (iI z3.2.1), .int (iI z3.2.2.1), .int (iI z3.2.2.2.1), .int (iI z3.2.2.2.2.1), .int (iI z3.2.2.2.2.2.1), .int (iI z3.2.2.2.2.2.2.1), .int (iI z3.2.2.2.2.2.2.2.1), .int (iI z3.2.2.2.2.2.2.2.2.1)])), (a0_result, .inr (3, [.ref a0_result_marks, .int (iI z3.2.2.2.2.2.2.2.2.2.1)])), (a0_signs, .inl (cs.1, 120, .inl (aI a0_signsF))), (a0_stack, .inl (cs.1, 720, .inl (aI z3.2.2.2.2.2.2.2.2.2.2.1))), (a0_result_marks, .inl (cs.1, 360, .inl (aI z3.2.2.2.2.2.2.2.2.2.2.2.1)))] [(0, .ref a0)] 67 []) h (fun z6 h => ?_) (fun k4 hk4 h => ?_)
    · refine j_aload_n (pc := 67) 0 ok dX5_firstError_67 rfl rfl ?_
      refine gf_X5_27_5 (pc := 68) 0 ok rfl dX5_firstError_68 ?_
      obtain rfl := Option.some.inj h
      exact fin _ 71 dX5_firstError_71
    · refine j_if_ne (pc := 48) 67 ok dX5_firstError_48 (by decide) h (fun h => ?_) (fun h => ?_)
      · exact hk4 () h
      · refine j_aload_n (pc := 51) 0 ok dX5_firstError_51 rfl rfl ?_
        refine gf_X5_41_5 (pc := 52) 0 ok rfl dX5_firstError_52 ?_
        refine j_iconst (pc := 55) ok dX5_firstError_55 ?_
        refine j_icmp_eq (pc := 56) 67 ok dX5_firstError_56 (by decide) h (fun h => ?_) (fun h => ?_)
        · exact hk4 () h
        · refine j_aload_n (pc := 59) 0 ok dX5_firstError_59 rfl rfl ?_
          refine gf_X5_41_5 (pc := 60) 0 ok rfl dX5_firstError_60 ?_
          refine j_iconst (pc := 63) ok dX5_firstError_63 ?_
          refine j_icmp_ne (pc := 64) 72 ok dX5_firstError_64 (by decide) h (fun h => ?_) (fun h => ?_)
          · refine j_aload_n (pc := 72) 0 ok dX5_firstError_72 rfl rfl ?_
            obtain ⟨r5, hr5, h⟩ := bd_inv h
            refine j_callV (pc := 73) ok (k_X5_endFactor (a0 := a0) (a0_signs := a0_signs) (a0_result := a0_result) (a0_stack := a0_stack) (a0_result_marks := a0_result_marks) (a0_length := a0_length) (a0_top := z3.1) (a0_state := z3.2.1) (a0_bracket := z3.2.2.1) (a0_chain := z3.2.2.2.1) (a0_factor := z3.2.2.2.2.1) (a0_isUnder := z3.2.2.2.2.2.1) (a0_isPlain := z3.2.2.2.2.2.2.1) (a0_script := z3.2.2.2.2.2.2.2.1) (a0_isBound := z3.2.2.2.2.2.2.2.2.1) (a0_result_size := z3.2.2.2.2.2.2.2.2.2.1) (a0_result_marksF := z3.2.2.2.2.2.2.2.2.2.2.2.1) hr5) gV_X5_44 ⟨rfl, hd_X5_endFactor⟩ [0, 1, 4] (by decide) rfl rfl 0 rfl rfl rfl rfl ⟨Nat.zero_le _, Nat.zero_le _⟩ (Nat.le_of_ble_eq_true rfl) dX5_firstError_73 rfl [(a0, .inr (5, [.ref a0_signs, .int (iI a0_length), .ref a0_result, .ref a0_stack, .int (iI z3.1), .int (iI z3.2.1), .int (iI z3.2.2.1), .int (iI z3.2.2.2.1), .int (iI z3.2.2.2.2.1), .int (iI r5.1), .int (iI r5.2.1), .int (iI z3.2.2.2.2.2.2.2.1), .int (iI z3.2.2.2.2.2.2.2.2.1)])), (a0_result, .inr (3, [.ref a0_result_marks, .int (iI r5.2.2.1)])), (a0_signs, .inl (cs.1, 120, .inl (aI a0_signsF))), (a0_stack, .inl (cs.1, 720, .inl (aI z3.2.2.2.2.2.2.2.2.2.2.1))), (a0_result_marks, .inl (cs.1, 360, .inl (aI r5.2.2.2)))] rfl ?_
            refine j_bipush (pc := 76) ok dX5_firstError_76 (by decide) ?_
            obtain rfl := Option.some.inj h
            exact fin _ 78 dX5_firstError_78
          · exact hk4 () h
def f_X6_signAt (a0_length : Int) (a0_signsF : (Nat → Int)) (x1 : Int) : Option (Int) := jn (fun (z4 : Int) => some z4) (fun k2 => jn (fun (z3 : Unit) => k2 32) (fun k1 => cLt x1 0 (k1 ()) (cLt x1 a0_length (cLt x1 300 (gIn x1 300 (k2 (a0_signsF x1.toNat))) (k1 ())) (k1 ()))))
set_option maxRecDepth 100000 in
set_option maxHeartbeats 4000000 in
theorem k_X6_signAt {D : va_G} {cs : q_CS} {a0 a0_signs a0_bracketed : Nat} {a0_length : Int} {a0_signsF : (Nat → Int)} {x1 : Int} {r : (Int)} (h : f_X6_signAt a0_length a0_signsF x1 = some r) : q_M D cs yX6_signAt cX6_signAt 2 (some .int) 0 0 [.ref a0, .int (iI x1)] [(a0, .inr (6, [.ref a0_signs, .int (iI a0_length), .ref a0_bracketed])), (a0_signs, .inl (cs.1, 300, .inl (aI a0_signsF)))] (some (.int (iI r))) [(a0, .inr (6, [.ref a0_signs, .int (iI a0_length), .ref a0_bracketed])), (a0_signs, .inl (cs.1, 300, .inl (aI a0_signsF)))] := by
  refine q_start_i [(0, .ref a0), (1, .int (iI x1))] RX6 rfl (by decide +kernel) rfl (Nat.le_of_ble_eq_true rfl) rfl (fun κ ok fin => ?_)
  unfold f_X6_signAt at h
  refine j_iload_n (pc := 0) 1 ok dX6_signAt_0 rfl rfl ?_
  refine jn_use (P := fun z4 => q_J D κ 2 0 0 [(a0, .inr (6, [.ref a0_signs, .int (iI a0_length), .ref a0_bracketed])), (a0_signs, .inl (cs.1, 300, .inl (aI a0_signsF)))] [] 32 [.int (iI z4)]) h (fun z4 h => ?_) (fun k2 hk2 h => ?_)
  · obtain rfl := Option.some.inj h
    exact fin _ 32 dX6_signAt_32
  · refine jn_use (P := fun z3 => q_J D κ 2 0 0 [(a0, .inr (6, [.ref a0_signs, .int (iI a0_length), .ref a0_bracketed])), (a0_signs, .inl (cs.1, 300, .inl (aI a0_signsF)))] [] 30 []) h (fun z3 h => ?_) (fun k1 hk1 h => ?_)
    · refine j_bipush (pc := 30) ok dX6_signAt_30 (by decide) ?_
      exact hk2 32 h
    · refine j_if_lt (pc := 1) 30 ok dX6_signAt_1 (by decide) h (fun h => ?_) (fun h => ?_)
      · refine j_lv [] rfl ?_
        exact hk1 () h
      · refine j_iload_n (pc := 4) 1 ok dX6_signAt_4 rfl rfl ?_
        refine j_aload_n (pc := 5) 0 ok dX6_signAt_5 rfl rfl ?_
        refine gf_X6_19_6 (pc := 6) 0 ok rfl dX6_signAt_6 ?_
        refine j_icmp_ge (pc := 9) 30 ok dX6_signAt_9 (by decide) h (fun h => ?_) (fun h => ?_)
        · refine j_lv [] rfl ?_
          exact hk1 () h
        · refine j_iload_n (pc := 12) 1 ok dX6_signAt_12 rfl rfl ?_
          refine j_aload_n (pc := 13) 0 ok dX6_signAt_13 rfl rfl ?_
          refine gf_X6_9_6 (pc := 14) 0 ok rfl dX6_signAt_14 ?_
          refine j_alen (pc := 17) 1 0 ok rfl rfl dX6_signAt_17 ?_
          refine j_icmp_ge (pc := 18) 30 ok dX6_signAt_18 (by decide) h (fun h => ?_) (fun h => ?_)
          · refine j_lv [] rfl ?_
            exact hk1 () h
          · refine j_aload_n (pc := 21) 0 ok dX6_signAt_21 rfl rfl ?_
            refine gf_X6_9_6 (pc := 22) 0 ok rfl dX6_signAt_22 ?_
            refine j_iload_n (pc := 25) 1 ok dX6_signAt_25 rfl rfl ?_
            refine j_iald (pc := 26) 1 ok rfl dX6_signAt_26 h (fun h => ?_)
            refine j_goto (pc := 27) 32 ok dX6_signAt_27 (by decide) ?_
            refine j_lv [] rfl ?_
            exact hk2 (a0_signsF x1.toNat) h
def f_X7_isScript (x0 : Int) : Option (Int) := jn (fun (z4 : Int) => gB z4 (some z4)) (fun k2 => jn (fun (z3 : Unit) => k2 1) (fun k1 => cEq x0 2 (k1 ()) (cEq x0 3 (k1 ()) (k2 0))))
set_option maxRecDepth 100000 in
set_option maxHeartbeats 4000000 in
theorem k_X7_isScript {D : va_G} {cs : q_CS} {x0 : Int} {r : (Int)} (h : f_X7_isScript x0 = some r) : q_M D cs yX7_isScript cX7_isScript 1 (some .boolean) 0 0 [.int (iI x0)] [] (some (.int (iI r))) [] := by
  refine q_start_z [(0, .int (iI x0))] RX7 rfl (by decide +kernel) rfl (Nat.le_of_ble_eq_true rfl) (fun κ ok fin => ?_)
  unfold f_X7_isScript at h
  refine j_iload_n (pc := 0) 0 ok dX7_isScript_0 rfl rfl ?_
  refine j_iconst (pc := 1) ok dX7_isScript_1 ?_
  refine jn_use (P := fun z4 => q_J D κ 1 0 0 [] [] 15 [.int (iI z4)]) h (fun z4 h => ?_) (fun k2 hk2 h => ?_)
  · obtain ⟨hbo, h⟩ := gB_inv h
    obtain rfl := Option.some.inj h
    exact fin _ 15 hbo dX7_isScript_15
  · refine jn_use (P := fun z3 => q_J D κ 1 0 0 [] [] 10 []) h (fun z3 h => ?_) (fun k1 hk1 h => ?_)
    · refine j_iconst (pc := 10) ok dX7_isScript_10 ?_
      refine j_goto (pc := 11) 15 ok dX7_isScript_11 (by decide) ?_
      exact hk2 1 h
    · refine j_icmp_eq (pc := 2) 10 ok dX7_isScript_2 (by decide) h (fun h => ?_) (fun h => ?_)
      · refine j_lv [] rfl ?_
        exact hk1 () h
      · refine j_iload_n (pc := 5) 0 ok dX7_isScript_5 rfl rfl ?_
        refine j_iconst (pc := 6) ok dX7_isScript_6 ?_
        refine j_icmp_ne (pc := 7) 14 ok dX7_isScript_7 (by decide) h (fun h => ?_) (fun h => ?_)
        · refine j_iconst (pc := 14) ok dX7_isScript_14 ?_
          refine j_lv [] rfl ?_
          exact hk2 0 h
        · refine j_lv [] rfl ?_
          exact hk1 () h
def f_X6_standsAsOperand_44 (a0_marksN : Nat) (a0_size : Int) (a0_marksF : (Nat → Int)) (e44_80 : Int × Int × Int → Option (Int)) : Nat → Int → Int → Int → Option (Int)
  | 0, _, _, _ => none
  | n + 1, y3, y4, y5 => cLt y5 60 (bd (f_X3_mark a0_marksN a0_size a0_marksF y4) (fun r7 => bd (f_X7_isScript r7) (fun r8 => cEq r8 0 (e44_80 (y3, y4, y5)) (bd (f_X3_itemEnd a0_marksN a0_size a0_marksF y4) (fun r9 => f_X6_standsAsOperand_44 a0_marksN a0_size a0_marksF e44_80 n (y3 + 1) r9 (y5 + 1)))))) (e44_80 (y3, y4, y5))
set_option maxRecDepth 100000 in
theorem l_X6_standsAsOperand_44 {D : va_G} {cs : q_CS} {κ : q_X} {a0 a0_marks : Nat} {a0_marksN : Nat} {a0_ci : Nat} {a0_fx : List Value} {a0_size : Int} {a0_marksF : (Nat → Int)} {y2 : Int} {r : (Int)} {e44_80 : Int × Int × Int → Option (Int)} (ha0 : q_mk a0_ci a0_fx) (ok : q_ok D cs κ cX6_standsAsOperand 6 RX6 (q_rm 2 44)) (fin : ∀ (lv : List (Nat × Value)) (pc : Nat), (r = 0 ∨ r = 1) → decode cX6_standsAsOperand pc = .ok (.ireturn, 1) → q_J D κ 6 0 0 [(a0, .inr (a0_ci, .ref a0_marks :: .int (iI a0_size) :: a0_fx)), (a0_marks, .inl (cs.1, a0_marksN, .inl (aI a0_marksF)))] lv pc [.int (iI r)]) (he44_80 : ∀ x : Int × Int × Int, e44_80 x = some r → q_J D κ 6 0 0 [(a0, .inr (a0_ci, .ref a0_marks :: .int (iI a0_size) :: a0_fx)), (a0_marks, .inl (cs.1, a0_marksN, .inl (aI a0_marksF)))] [(0, .ref a0), (2, .int (iI y2)), (3, .int (iI x.1)), (4, .int (iI x.2.1))] 80 []) : ∀ (n : Nat) (y3 : Int) (y4 : Int) (y5 : Int), f_X6_standsAsOperand_44 a0_marksN a0_size a0_marksF e44_80 n y3 y4 y5 = some r → q_J D κ 6 0 0 [(a0, .inr (a0_ci, .ref a0_marks :: .int (iI a0_size) :: a0_fx)), (a0_marks, .inl (cs.1, a0_marksN, .inl (aI a0_marksF)))] [(0, .ref a0), (2, .int (iI y2)), (3, .int (iI y3)), (4, .int (iI y4)), (5, .int (iI y5))] 44 [] := by
  intro n
  induction n with
  | zero =>
    intro y3 y4 y5 h
    exact absurd h (by unfold f_X6_standsAsOperand_44; exact fun z => by cases z)
  | succ n ih =>
    intro y3 y4 y5 h
    unfold f_X6_standsAsOperand_44 at h
    refine j_iload (pc := 44) 4 ok dX6_standsAsOperand_44 rfl ?_
    refine j_bipush (pc := 46) ok dX6_standsAsOperand_46 (by decide) ?_
    refine j_icmp_ge (pc := 48) 80 ok dX6_standsAsOperand_48 (by decide) h (fun h => ?_) (fun h => ?_)
    · refine j_lv [0, 1, 2, 3] rfl ?_
      exact he44_80 (y3, y4, y5) h
    · refine j_aload_n (pc := 51) 0 ok dX6_standsAsOperand_51 rfl rfl ?_
      refine j_iload (pc := 52) 3 ok dX6_standsAsOperand_52 rfl ?_
      obtain ⟨r7, hr7, h⟩ := bd_inv h
      refine j_callM (pc := 54) ok ha0 (k_X3_mark (a0 := a0) (a0_marks := a0_marks) (a0_ci := a0_ci) (a0_fx := a0_fx) (a0_marksN := a0_marksN) (a0_size := a0_size) (a0_marksF := a0_marksF) (x1 := y4) ha0 hr7) gU_X6_28 rfl hd_X3_mark gV_X6_28 ⟨rfl, hd_X3_mark⟩ [0, 1] (by decide) rfl rfl 0 rfl rfl rfl ⟨Nat.zero_le _, Nat.zero_le _⟩ (Nat.le_of_ble_eq_true rfl) dX6_standsAsOperand_54 rfl [(a0, .inr (a0_ci, .ref a0_marks :: .int (iI a0_size) :: a0_fx)), (a0_marks, .inl (cs.1, a0_marksN, .inl (aI a0_marksF)))] rfl ?_
      obtain ⟨r8, hr8, h⟩ := bd_inv h
      refine j_callN (pc := 57) ok (k_X7_isScript (x0 := r7) hr8) gN_X6_58 gNw_X6_58 gNi_X6_58 gNs_X6_58 hd_X7_isScript [] (by decide) rfl rfl rfl rfl ⟨Nat.zero_le _, Nat.zero_le _⟩ (Nat.le_of_ble_eq_true rfl) dX6_standsAsOperand_57 rfl [(a0, .inr (a0_ci, .ref a0_marks :: .int (iI a0_size) :: a0_fx)), (a0_marks, .inl (cs.1, a0_marksN, .inl (aI a0_marksF)))] rfl ?_
      refine j_if_eq (pc := 60) 80 ok dX6_standsAsOperand_60 (by decide) h (fun h => ?_) (fun h => ?_)
      · refine j_lv [0, 1, 2, 3] rfl ?_
        exact he44_80 (y3, y4, y5) h
      · refine j_aload_n (pc := 63) 0 ok dX6_standsAsOperand_63 rfl rfl ?_
        refine j_iload (pc := 64) 3 ok dX6_standsAsOperand_64 rfl ?_
        obtain ⟨r9, hr9, h⟩ := bd_inv h
        refine j_callM (pc := 66) ok ha0 (k_X3_itemEnd (a0 := a0) (a0_marks := a0_marks) (a0_ci := a0_ci) (a0_fx := a0_fx) (a0_marksN := a0_marksN) (a0_size := a0_size) (a0_marksF := a0_marksF) (x1 := y4) ha0 hr9) gU_X6_70 rfl hd_X3_itemEnd gV_X6_70 ⟨rfl, hd_X3_itemEnd⟩ [0, 1] (by decide) rfl rfl 0 rfl rfl rfl ⟨Nat.zero_le _, Nat.zero_le _⟩ (Nat.le_of_ble_eq_true rfl) dX6_standsAsOperand_66 rfl [(a0, .inr (a0_ci, .ref a0_marks :: .int (iI a0_size) :: a0_fx)), (a0_marks, .inl (cs.1, a0_marksN, .inl (aI a0_marksF)))] rfl ?_
        refine j_istore (pc := 69) (lv' := [(4, .int (iI r9)), (0, .ref a0), (2, .int (iI y2)), (3, .int (iI y3)), (5, .int (iI y5))]) ok dX6_standsAsOperand_69 (by decide) rfl ?_
        refine j_iinc (pc := 71) (lv' := [(3, .int (iI (y3 + 1))), (4, .int (iI r9)), (0, .ref a0), (2, .int (iI y2)), (5, .int (iI y5))]) 3 ok dX6_standsAsOperand_71 rfl (by decide) rfl ?_
        refine j_iinc (pc := 74) (lv' := [(5, .int (iI (y5 + 1))), (3, .int (iI (y3 + 1))), (4, .int (iI r9)), (0, .ref a0), (2, .int (iI y2))]) 4 ok dX6_standsAsOperand_74 rfl (by decide) rfl ?_
        refine j_goto (pc := 77) 44 ok dX6_standsAsOperand_77 (by decide) ?_
        refine j_lv [3, 4, 1, 2, 0] rfl ?_
        exact ih _ _ _ h
def f_X6_standsAsOperand (a0_marksN : Nat) (a0_size : Int) (a0_marksF : (Nat → Int)) (x1 : Int) : Option (Int) := bd (f_X3_mark a0_marksN a0_size a0_marksF x1) (fun r1 => bd (f_X7_isLetter r1) (fun r2 => jn (fun (z5 : Unit) => bd (f_X3_itemEnd a0_marksN a0_size a0_marksF x1) (fun r6 => f_X6_standsAsOperand_44 a0_marksN a0_size a0_marksF (fun (z10 : Int × Int × Int) => bd (f_X3_mark a0_marksN a0_size a0_marksF z10.2.1) (fun r11 => bd (f_X7_startsItem r11) (fun r12 => jn (fun (z14 : Int) => jn (fun (z20 : Int) => gB z20 (some z20)) (fun k16 => jn (fun (z19 : Unit) => k16 0) (fun k15 => cEq z14 0 (k15 ()) (jn (fun (z18 : Unit) => k16 1) (fun k17 => cEq r1 5 (cLt 0 z10.1 (k17 ()) (k15 ())) (k17 ())))))) (fun k13 => cEq r12 0 (k13 1) (k13 0))))) fuel 0 r6 0)) (fun k3 => cEq r2 0 (bd (f_X7_isDigit r1) (fun r4 => cEq r4 0 (cEq r1 4 (k3 ()) (cEq r1 5 (k3 ()) (gB 0 (some 0)))) (k3 ()))) (k3 ()))))
set_option maxRecDepth 100000 in
set_option maxHeartbeats 4000000 in
theorem k_X6_standsAsOperand {D : va_G} {cs : q_CS} {a0 a0_marks : Nat} {a0_marksN : Nat} {a0_ci : Nat} {a0_fx : List Value} {a0_size : Int} {a0_marksF : (Nat → Int)} {x1 : Int} {r : (Int)} (ha0 : q_mk a0_ci a0_fx) (h : f_X6_standsAsOperand a0_marksN a0_size a0_marksF x1 = some r) : q_M D cs yX6_standsAsOperand cX6_standsAsOperand 6 (some .boolean) 2 44 [.ref a0, .int (iI x1)] [(a0, .inr (a0_ci, .ref a0_marks :: .int (iI a0_size) :: a0_fx)), (a0_marks, .inl (cs.1, a0_marksN, .inl (aI a0_marksF)))] (some (.int (iI r))) [(a0, .inr (a0_ci, .ref a0_marks :: .int (iI a0_size) :: a0_fx)), (a0_marks, .inl (cs.1, a0_marksN, .inl (aI a0_marksF)))] := by
  refine q_start_z [(0, .ref a0), (1, .int (iI x1))] RX6 rfl (by decide +kernel) rfl (Nat.le_of_ble_eq_true rfl) (fun κ ok fin => ?_)
  unfold f_X6_standsAsOperand at h
  refine j_aload_n (pc := 0) 0 ok dX6_standsAsOperand_0 rfl rfl ?_
  refine j_iload_n (pc := 1) 1 ok dX6_standsAsOperand_1 rfl rfl ?_
  obtain ⟨r1, hr1, h⟩ := bd_inv h
  refine j_callM (pc := 2) ok ha0 (k_X3_mark (a0 := a0) (a0_marks := a0_marks) (a0_ci := a0_ci) (a0_fx := a0_fx) (a0_marksN := a0_marksN) (a0_size := a0_size) (a0_marksF := a0_marksF) (x1 := x1) ha0 hr1) gU_X6_28 rfl hd_X3_mark gV_X6_28 ⟨rfl, hd_X3_mark⟩ [0, 1] (by decide) rfl rfl 0 rfl rfl rfl ⟨Nat.zero_le _, Nat.zero_le _⟩ (Nat.le_of_ble_eq_true rfl) dX6_standsAsOperand_2 rfl [(a0, .inr (a0_ci, .ref a0_marks :: .int (iI a0_size) :: a0_fx)), (a0_marks, .inl (cs.1, a0_marksN, .inl (aI a0_marksF)))] rfl ?_
  refine j_istore_n (pc := 5) (lv' := [(2, .int (iI r1)), (0, .ref a0), (1, .int (iI x1))]) ok dX6_standsAsOperand_5 rfl (by decide) rfl ?_
  refine j_iload_n (pc := 6) 0 ok dX6_standsAsOperand_6 rfl rfl ?_
  obtain ⟨r2, hr2, h⟩ := bd_inv h
  refine j_callN (pc := 7) ok (k_X7_isLetter (x0 := r1) hr2) gN_X6_64 gNw_X6_64 gNi_X6_64 gNs_X6_64 hd_X7_isLetter [] (by decide) rfl rfl rfl rfl ⟨Nat.zero_le _, Nat.zero_le _⟩ (Nat.le_of_ble_eq_true rfl) dX6_standsAsOperand_7 rfl [(a0, .inr (a0_ci, .ref a0_marks :: .int (iI a0_size) :: a0_fx)), (a0_marks, .inl (cs.1, a0_marksN, .inl (aI a0_marksF)))] rfl ?_
  refine jn_use (P := fun z5 => q_J D κ 6 0 0 [(a0, .inr (a0_ci, .ref a0_marks :: .int (iI a0_size) :: a0_fx)), (a0_marks, .inl (cs.1, a0_marksN, .inl (aI a0_marksF)))] [(0, .ref a0), (1, .int (iI x1)), (2, .int (iI r1))] 32 []) h (fun z5 h => ?_) (fun k3 hk3 h => ?_)
  · refine j_iconst (pc := 32) ok dX6_standsAsOperand_32 ?_
    refine j_istore_n (pc := 33) (lv' := [(3, .int (iI 0)), (0, .ref a0), (1, .int (iI x1)), (2, .int (iI r1))]) ok dX6_standsAsOperand_33 rfl (by decide) rfl ?_
    refine j_aload_n (pc := 34) 1 ok dX6_standsAsOperand_34 rfl rfl ?_
    refine j_iload_n (pc := 35) 2 ok dX6_standsAsOperand_35 rfl rfl ?_
    obtain ⟨r6, hr6, h⟩ := bd_inv h
    refine j_callM (pc := 36) ok ha0 (k_X3_itemEnd (a0 := a0) (a0_marks := a0_marks) (a0_ci := a0_ci) (a0_fx := a0_fx) (a0_marksN := a0_marksN) (a0_size := a0_size) (a0_marksF := a0_marksF) (x1 := x1) ha0 hr6) gU_X6_70 rfl hd_X3_itemEnd gV_X6_70 ⟨rfl, hd_X3_itemEnd⟩ [0, 1] (by decide) rfl rfl 0 rfl rfl rfl ⟨Nat.zero_le _, Nat.zero_le _⟩ (Nat.le_of_ble_eq_true rfl) dX6_standsAsOperand_36 rfl [(a0, .inr (a0_ci, .ref a0_marks :: .int (iI a0_size) :: a0_fx)), (a0_marks, .inl (cs.1, a0_marksN, .inl (aI a0_marksF)))] rfl ?_
    refine j_istore (pc := 39) (lv' := [(4, .int (iI r6)), (3, .int (iI 0)), (0, .ref a0), (1, .int (iI x1)), (2, .int (iI r1))]) ok dX6_standsAsOperand_39 (by decide) rfl ?_
    refine j_iconst (pc := 41) ok dX6_standsAsOperand_41 ?_
    refine j_istore (pc := 42) (lv' := [(5, .int (iI 0)), (4, .int (iI r6)), (3, .int (iI 0)), (0, .ref a0), (1, .int (iI x1)), (2, .int (iI r1))]) ok dX6_standsAsOperand_42 (by decide) rfl ?_
    refine j_lv [3, 5, 2, 1, 0] rfl ?_
    refine l_X6_standsAsOperand_44 ha0 ok fin (fun z10 h => ?_) fuel _ _ _ h
    · refine j_aload_n (pc := 80) 0 ok dX6_standsAsOperand_80 rfl rfl ?_
      refine j_iload (pc := 81) 3 ok dX6_standsAsOperand_81 rfl ?_
      obtain ⟨r11, hr11, h⟩ := bd_inv h
      refine j_callM (pc := 83) ok ha0 (k_X3_mark (a0 := a0) (a0_marks := a0_marks) (a0_ci := a0_ci) (a0_fx := a0_fx) (a0_marksN := a0_marksN) (a0_size := a0_size) (a0_marksF := a0_marksF) (x1 := z10.2.1) ha0 hr11) gU_X6_28 rfl hd_X3_mark gV_X6_28 ⟨rfl, hd_X3_mark⟩ [0, 1] (by decide) rfl rfl 0 rfl rfl rfl ⟨Nat.zero_le _, Nat.zero_le _⟩ (Nat.le_of_ble_eq_true rfl) dX6_standsAsOperand_83 rfl [(a0, .inr (a0_ci, .ref a0_marks :: .int (iI a0_size) :: a0_fx)), (a0_marks, .inl (cs.1, a0_marksN, .inl (aI a0_marksF)))] rfl ?_
      obtain ⟨r12, hr12, h⟩ := bd_inv h
      refine j_callN (pc := 86) ok (k_X7_startsItem (x0 := r11) hr12) gN_X6_73 gNw_X6_73 gNi_X6_73 gNs_X6_73 hd_X7_startsItem [] (by decide) rfl rfl rfl rfl ⟨Nat.zero_le _, Nat.zero_le _⟩ (Nat.le_of_ble_eq_true rfl) dX6_standsAsOperand_86 rfl [(a0, .inr (a0_ci, .ref a0_marks :: .int (iI a0_size) :: a0_fx)), (a0_marks, .inl (cs.1, a0_marksN, .inl (aI a0_marksF)))] rfl ?_
      refine jn_use (P := fun z14 => q_J D κ 6 0 0 [(a0, .inr (a0_ci, .ref a0_marks :: .int (iI a0_size) :: a0_fx)), (a0_marks, .inl (cs.1, a0_marksN, .inl (aI a0_marksF)))] [(2, .int (iI r1)), (3, .int (iI z10.1))] 97 [.int (iI z14)]) h (fun z14 h => ?_) (fun k13 hk13 h => ?_)
      · refine j_istore (pc := 97) (lv' := [(5, .int (iI z14)), (2, .int (iI r1)), (3, .int (iI z10.1))]) ok dX6_standsAsOperand_97 (by decide) rfl ?_
        refine j_iload (pc := 99) 0 ok dX6_standsAsOperand_99 rfl ?_
        refine jn_use (P := fun z20 => q_J D κ 6 0 0 [(a0, .inr (a0_ci, .ref a0_marks :: .int (iI a0_size) :: a0_fx)), (a0_marks, .inl (cs.1, a0_marksN, .inl (aI a0_marksF)))] [] 118 [.int (iI z20)]) h (fun z20 h => ?_) (fun k16 hk16 h => ?_)
        · obtain ⟨hbo, h⟩ := gB_inv h
          obtain rfl := Option.some.inj h
          exact fin _ 118 hbo dX6_standsAsOperand_118
        · refine jn_use (P := fun z19 => q_J D κ 6 0 0 [(a0, .inr (a0_ci, .ref a0_marks :: .int (iI a0_size) :: a0_fx)), (a0_marks, .inl (cs.1, a0_marksN, .inl (aI a0_marksF)))] [] 117 []) h (fun z19 h => ?_) (fun k15 hk15 h => ?_)
          · refine j_iconst (pc := 117) ok dX6_standsAsOperand_117 ?_
            exact hk16 0 h
          · refine j_if_eq (pc := 101) 117 ok dX6_standsAsOperand_101 (by decide) h (fun h => ?_) (fun h => ?_)
            · refine j_lv [] rfl ?_
              exact hk15 () h
            · refine j_iload_n (pc := 104) 1 ok dX6_standsAsOperand_104 rfl rfl ?_
              refine j_iconst (pc := 105) ok dX6_standsAsOperand_105 ?_
              refine jn_use (P := fun z18 => q_J D κ 6 0 0 [(a0, .inr (a0_ci, .ref a0_marks :: .int (iI a0_size) :: a0_fx)), (a0_marks, .inl (cs.1, a0_marksN, .inl (aI a0_marksF)))] [] 113 []) h (fun z18 h => ?_) (fun k17 hk17 h => ?_)
              · refine j_iconst (pc := 113) ok dX6_standsAsOperand_113 ?_
                refine j_goto (pc := 114) 118 ok dX6_standsAsOperand_114 (by decide) ?_
                exact hk16 1 h
              · refine j_icmp_ne (pc := 106) 113 ok dX6_standsAsOperand_106 (by decide) h (fun h => ?_) (fun h => ?_)
                · refine j_lv [] rfl ?_
                  exact hk17 () h
                · refine j_iload_n (pc := 109) 2 ok dX6_standsAsOperand_109 rfl rfl ?_
                  refine j_if_le (pc := 110) 117 ok dX6_standsAsOperand_110 (by decide) h (fun h => ?_) (fun h => ?_)
                  · refine j_lv [] rfl ?_
                    exact hk15 () h
                  · refine j_lv [] rfl ?_
                    exact hk17 () h
      · refine j_if_ne (pc := 89) 96 ok dX6_standsAsOperand_89 (by decide) h (fun h => ?_) (fun h => ?_)
        · refine j_iconst (pc := 96) ok dX6_standsAsOperand_96 ?_
          refine j_lv [1, 2] rfl ?_
          exact hk13 0 h
        · refine j_iconst (pc := 92) ok dX6_standsAsOperand_92 ?_
          refine j_goto (pc := 93) 97 ok dX6_standsAsOperand_93 (by decide) ?_
          refine j_lv [1, 2] rfl ?_
          exact hk13 1 h
  · refine j_if_ne (pc := 10) 32 ok dX6_standsAsOperand_10 (by decide) h (fun h => ?_) (fun h => ?_)
    · refine j_lv [1, 2, 0] rfl ?_
      exact hk3 () h
    · refine j_iload_n (pc := 13) 0 ok dX6_standsAsOperand_13 rfl rfl ?_
      obtain ⟨r4, hr4, h⟩ := bd_inv h
      refine j_callN (pc := 14) ok (k_X7_isDigit (x0 := r1) hr4) gN_X6_67 gNw_X6_67 gNi_X6_67 gNs_X6_67 hd_X7_isDigit [] (by decide) rfl rfl rfl rfl ⟨Nat.zero_le _, Nat.zero_le _⟩ (Nat.le_of_ble_eq_true rfl) dX6_standsAsOperand_14 rfl [(a0, .inr (a0_ci, .ref a0_marks :: .int (iI a0_size) :: a0_fx)), (a0_marks, .inl (cs.1, a0_marksN, .inl (aI a0_marksF)))] rfl ?_
      refine j_if_ne (pc := 17) 32 ok dX6_standsAsOperand_17 (by decide) h (fun h => ?_) (fun h => ?_)
      · refine j_lv [1, 2, 0] rfl ?_
        exact hk3 () h
      · refine j_iload_n (pc := 20) 0 ok dX6_standsAsOperand_20 rfl rfl ?_
        refine j_iconst (pc := 21) ok dX6_standsAsOperand_21 ?_
        refine j_icmp_eq (pc := 22) 32 ok dX6_standsAsOperand_22 (by decide) h (fun h => ?_) (fun h => ?_)
        · refine j_lv [1, 2, 0] rfl ?_
          exact hk3 () h
        · refine j_iload_n (pc := 25) 0 ok dX6_standsAsOperand_25 rfl rfl ?_
          refine j_iconst (pc := 26) ok dX6_standsAsOperand_26 ?_
          refine j_icmp_eq (pc := 27) 32 ok dX6_standsAsOperand_27 (by decide) h (fun h => ?_) (fun h => ?_)
          · refine j_lv [1, 2, 0] rfl ?_
            exact hk3 () h
          · refine j_iconst (pc := 30) ok dX6_standsAsOperand_30 ?_
            obtain ⟨hbo, h⟩ := gB_inv h
            obtain rfl := Option.some.inj h
            exact fin _ 31 hbo dX6_standsAsOperand_31
def f_X6_put (a0_length : Int) (a0_signsF : (Nat → Int)) (x1 : Int) : Option (Int × (Nat → Int)) := jn (fun (z2 : Int × (Nat → Int)) => some (z2.1, z2.2)) (fun k1 => cLt a0_length 0 (k1 (a0_length, a0_signsF)) (cLt a0_length 300 (gIn a0_length 300 (k1 (a0_length + 1, va_up a0_signsF a0_length.toNat x1))) (k1 (a0_length, a0_signsF))))
set_option maxRecDepth 100000 in
set_option maxHeartbeats 4000000 in
theorem k_X6_put {D : va_G} {cs : q_CS} {a0 a0_signs a0_bracketed : Nat} {a0_length : Int} {a0_signsF : (Nat → Int)} {x1 : Int} {r : (Int × (Nat → Int))} (h : f_X6_put a0_length a0_signsF x1 = some r) : q_M D cs yX6_put cX6_put 2 none 0 0 [.ref a0, .int (iI x1)] [(a0, .inr (6, [.ref a0_signs, .int (iI a0_length), .ref a0_bracketed])), (a0_signs, .inl (cs.1, 300, .inl (aI a0_signsF)))] none [(a0, .inr (6, [.ref a0_signs, .int (iI r.1), .ref a0_bracketed])), (a0_signs, .inl (cs.1, 300, .inl (aI r.2)))] := by
  refine q_start_v [(0, .ref a0), (1, .int (iI x1))] RX6 rfl (by decide +kernel) rfl (Nat.le_of_ble_eq_true rfl) (fun κ ok fin => ?_)
  unfold f_X6_put at h
  refine j_aload_n (pc := 0) 0 ok dX6_put_0 rfl rfl ?_
  refine gf_X6_19_6 (pc := 1) 0 ok rfl dX6_put_1 ?_
  refine jn_use (P := fun z2 => q_J D κ 2 0 0 [(a0, .inr (6, [.ref a0_signs, .int (iI z2.1), .ref a0_bracketed])), (a0_signs, .inl (cs.1, 300, .inl (aI z2.2)))] [] 39 []) h (fun z2 h => ?_) (fun k1 hk1 h => ?_)
  · obtain rfl := Option.some.inj h
    exact fin _ 39 dX6_put_39
  · refine j_if_lt (pc := 4) 39 ok dX6_put_4 (by decide) h (fun h => ?_) (fun h => ?_)
    · refine j_lv [] rfl ?_
      exact hk1 (a0_length, a0_signsF) h
    · refine j_aload_n (pc := 7) 0 ok dX6_put_7 rfl rfl ?_
      refine gf_X6_19_6 (pc := 8) 0 ok rfl dX6_put_8 ?_
      refine j_aload_n (pc := 11) 0 ok dX6_put_11 rfl rfl ?_
      refine gf_X6_9_6 (pc := 12) 0 ok rfl dX6_put_12 ?_
      refine j_alen (pc := 15) 1 0 ok rfl rfl dX6_put_15 ?_
      refine j_icmp_ge (pc := 16) 39 ok dX6_put_16 (by decide) h (fun h => ?_) (fun h => ?_)
      · refine j_lv [] rfl ?_
        exact hk1 (a0_length, a0_signsF) h
      · refine j_aload_n (pc := 19) 0 ok dX6_put_19 rfl rfl ?_
        refine gf_X6_9_6 (pc := 20) 0 ok rfl dX6_put_20 ?_
        refine j_aload_n (pc := 23) 0 ok dX6_put_23 rfl rfl ?_
        refine gf_X6_19_6 (pc := 24) 0 ok rfl dX6_put_24 ?_
        refine j_iload_n (pc := 27) 1 ok dX6_put_27 rfl rfl ?_
        refine j_iastw (pc := 28) 1 ok rfl dX6_put_28 h [(a0, .inr (6, [.ref a0_signs, .int (iI a0_length), .ref a0_bracketed])), (a0_signs, .inl (cs.1, 300, .inl (aI (va_up a0_signsF a0_length.toNat x1))))] rfl (fun h => ?_)
        refine j_aload_n (pc := 29) 0 ok dX6_put_29 rfl rfl ?_
        refine j_dup (pc := 30) ok dX6_put_30 rfl ?_
        refine gf_X6_19_6 (pc := 31) 0 ok rfl dX6_put_31 ?_
        refine j_iconst (pc := 34) ok dX6_put_34 ?_
        refine j_iadd (pc := 35) ok dX6_put_35 ?_
        refine pf_X6_19_6 (pc := 36) 0 ok rfl dX6_put_36 [(a0, .inr (6, [.ref a0_signs, .int (iI (a0_length + 1)), .ref a0_bracketed])), (a0_signs, .inl (cs.1, 300, .inl (aI (va_up a0_signsF a0_length.toNat x1))))] rfl ?_
        refine j_lv [] rfl ?_
        exact hk1 (a0_length + 1, va_up a0_signsF a0_length.toNat x1) h
def f_X6_beginSlot (a0_length : Int) (a0_bracketedF : (Nat → Int)) (a0_signsF : (Nat → Int)) (x1 : Int) (x2 : Int) : Option (Int × (Nat → Int) × (Nat → Int)) := jn (fun (z2 : (Nat → Int)) => jn (fun (z5 : Int × (Nat → Int)) => some (z5.1, z2, z5.2)) (fun k3 => cEq x2 0 (k3 (a0_length, a0_signsF)) (bd (f_X6_put a0_length a0_signsF 40) (fun r4 => k3 (r4.1, r4.2))))) (fun k1 => cLt x1 0 (k1 a0_bracketedF) (cLt x1 6 (gIn x1 6 (gB x2 (k1 (va_up a0_bracketedF x1.toNat x2)))) (k1 a0_bracketedF)))
set_option maxRecDepth 100000 in
set_option maxHeartbeats 4000000 in
theorem k_X6_beginSlot {D : va_G} {cs : q_CS} {a0 a0_signs a0_bracketed : Nat} {a0_length : Int} {a0_bracketedF a0_signsF : (Nat → Int)} {x1 x2 : Int} {r : (Int × (Nat → Int) × (Nat → Int))} (h : f_X6_beginSlot a0_length a0_bracketedF a0_signsF x1 x2 = some r) : q_M D cs yX6_beginSlot cX6_beginSlot 3 none 1 21 [.ref a0, .int (iI x1), .int (iI x2)] [(a0, .inr (6, [.ref a0_signs, .int (iI a0_length), .ref a0_bracketed])), (a0_bracketed, .inl (cs.2.1, 6, .inl (aI a0_bracketedF))), (a0_signs, .inl (cs.1, 300, .inl (aI a0_signsF)))] none [(a0, .inr (6, [.ref a0_signs, .int (iI r.1), .ref a0_bracketed])), (a0_bracketed, .inl (cs.2.1, 6, .inl (aI r.2.1))), (a0_signs, .inl (cs.1, 300, .inl (aI r.2.2)))] := by
  refine q_start_v [(0, .ref a0), (1, .int (iI x1)), (2, .int (iI x2))] RX6 rfl (by decide +kernel) rfl (Nat.le_of_ble_eq_true rfl) (fun κ ok fin => ?_)
  unfold f_X6_beginSlot at h
  refine j_iload_n (pc := 0) 1 ok dX6_beginSlot_0 rfl rfl ?_
  refine jn_use (P := fun z2 => q_J D κ 3 0 0 [(a0, .inr (6, [.ref a0_signs, .int (iI a0_length), .ref a0_bracketed])), (a0_bracketed, .inl (cs.2.1, 6, .inl (aI z2))), (a0_signs, .inl (cs.1, 300, .inl (aI a0_signsF)))] [(0, .ref a0), (2, .int (iI x2))] 20 []) h (fun z2 h => ?_) (fun k1 hk1 h => ?_)
  · refine j_iload_n (pc := 20) 1 ok dX6_beginSlot_20 rfl rfl ?_
    refine jn_use (P := fun z5 => q_J D κ 3 0 0 [(a0, .inr (6, [.ref a0_signs, .int (iI z5.1), .ref a0_bracketed])), (a0_bracketed, .inl (cs.2.1, 6, .inl (aI z2))), (a0_signs, .inl (cs.1, 300, .inl (aI z5.2)))] [] 30 []) h (fun z5 h => ?_) (fun k3 hk3 h => ?_)
    · obtain rfl := Option.some.inj h
      exact fin _ 30 dX6_beginSlot_30
    · refine j_if_eq (pc := 21) 30 ok dX6_beginSlot_21 (by decide) h (fun h => ?_) (fun h => ?_)
      · refine j_lv [] rfl ?_
        exact hk3 (a0_length, a0_signsF) h
      · refine j_aload_n (pc := 24) 0 ok dX6_beginSlot_24 rfl rfl ?_
        refine j_bipush (pc := 25) ok dX6_beginSlot_25 (by decide) ?_
        obtain ⟨r4, hr4, h⟩ := bd_inv h
        refine j_callV (pc := 27) ok (k_X6_put (a0 := a0) (a0_signs := a0_signs) (a0_bracketed := a0_bracketed) (a0_length := a0_length) (a0_signsF := a0_signsF) (x1 := 40) hr4) gV_X6_44 ⟨rfl, hd_X6_put⟩ [0, 2] (by decide) rfl rfl 0 rfl rfl rfl rfl ⟨Nat.zero_le _, Nat.zero_le _⟩ (Nat.le_of_ble_eq_true rfl) dX6_beginSlot_27 rfl [(a0, .inr (6, [.ref a0_signs, .int (iI r4.1), .ref a0_bracketed])), (a0_bracketed, .inl (cs.2.1, 6, .inl (aI z2))), (a0_signs, .inl (cs.1, 300, .inl (aI r4.2)))] rfl ?_
        refine j_lv [] rfl ?_
        exact hk3 (r4.1, r4.2) h
  · refine j_if_lt (pc := 1) 20 ok dX6_beginSlot_1 (by decide) h (fun h => ?_) (fun h => ?_)
    · refine j_lv [0, 2] rfl ?_
      exact hk1 a0_bracketedF h
    · refine j_iload_n (pc := 4) 1 ok dX6_beginSlot_4 rfl rfl ?_
      refine j_aload_n (pc := 5) 0 ok dX6_beginSlot_5 rfl rfl ?_
      refine gf_X6_15_6 (pc := 6) 0 ok rfl dX6_beginSlot_6 ?_
      refine j_alen (pc := 9) 1 1 ok rfl rfl dX6_beginSlot_9 ?_
      refine j_icmp_ge (pc := 10) 20 ok dX6_beginSlot_10 (by decide) h (fun h => ?_) (fun h => ?_)
      · refine j_lv [0, 2] rfl ?_
        exact hk1 a0_bracketedF h
      · refine j_aload_n (pc := 13) 0 ok dX6_beginSlot_13 rfl rfl ?_
        refine gf_X6_15_6 (pc := 14) 0 ok rfl dX6_beginSlot_14 ?_
        refine j_iload_n (pc := 17) 1 ok dX6_beginSlot_17 rfl rfl ?_
        refine j_iload_n (pc := 18) 2 ok dX6_beginSlot_18 rfl rfl ?_
        refine j_zastw (pc := 19) 1 ok rfl dX6_beginSlot_19 h [(a0, .inr (6, [.ref a0_signs, .int (iI a0_length), .ref a0_bracketed])), (a0_bracketed, .inl (cs.2.1, 6, .inl (aI (va_up a0_bracketedF x1.toNat x2)))), (a0_signs, .inl (cs.1, 300, .inl (aI a0_signsF)))] rfl (fun h => ?_)
        refine j_lv [0, 2] rfl ?_
        exact hk1 (va_up a0_bracketedF x1.toNat x2) h
