def f_X6_standsAsBase (a0_marksN : Nat) (a0_size : Int) (a0_marksF : (Nat → Int)) (x1 : Int) : Option (Int) := bd (f_X3_mark a0_marksN a0_size a0_marksF x1) (fun r1 => bd (f_X7_isLetter r1) (fun r2 => jn (fun (z7 : Int) => jn (fun (z14 : Int) => gB z14 (some z14)) (fun k9 => jn (fun (z13 : Unit) => k9 0) (fun k8 => cEq z7 0 (k8 ()) (bd (f_X3_itemEnd a0_marksN a0_size a0_marksF x1) (fun r10 => bd (f_X3_mark a0_marksN a0_size a0_marksF r10) (fun r11 => bd (f_X7_startsItem r11) (fun r12 => cEq r12 0 (k9 1) (k8 ())))))))) (fun k4 => jn (fun (z6 : Unit) => k4 1) (fun k3 => cEq r2 0 (bd (f_X7_isDigit r1) (fun r5 => cEq r5 0 (cEq r1 4 (k3 ()) (k4 0)) (k3 ()))) (k3 ())))))
set_option maxRecDepth 100000 in
set_option maxHeartbeats 4000000 in
theorem k_X6_standsAsBase {D : va_G} {cs : q_CS} {a0 a0_marks : Nat} {a0_marksN : Nat} {a0_ci : Nat} {a0_fx : List Value} {a0_size : Int} {a0_marksF : (Nat → Int)} {x1 : Int} {r : (Int)} (ha0 : q_mk a0_ci a0_fx) (h : f_X6_standsAsBase a0_marksN a0_size a0_marksF x1 = some r) : q_M D cs yX6_standsAsBase cX6_standsAsBase 4 (some .boolean) 2 44 [.ref a0, .int (iI x1)] [(a0, .inr (a0_ci, .ref a0_marks :: .int (iI a0_size) :: a0_fx)), (a0_marks, .inl (cs.1, a0_marksN, .inl (aI a0_marksF)))] (some (.int (iI r))) [(a0, .inr (a0_ci, .ref a0_marks :: .int (iI a0_size) :: a0_fx)), (a0_marks, .inl (cs.1, a0_marksN, .inl (aI a0_marksF)))] := by
  refine q_start_z [(0, .ref a0), (1, .int (iI x1))] RX6 rfl (by decide +kernel) rfl (Nat.le_of_ble_eq_true rfl) (fun κ ok fin => ?_)
  unfold f_X6_standsAsBase at h
  refine j_aload_n (pc := 0) 0 ok dX6_standsAsBase_0 rfl rfl ?_
  refine j_iload_n (pc := 1) 1 ok dX6_standsAsBase_1 rfl rfl ?_
  obtain ⟨r1, hr1, h⟩ := bd_inv h
  refine j_callM (pc := 2) ok ha0 (k_X3_mark (a0 := a0) (a0_marks := a0_marks) (a0_ci := a0_ci) (a0_fx := a0_fx) (a0_marksN := a0_marksN) (a0_size := a0_size) (a0_marksF := a0_marksF) (x1 := x1) ha0 hr1) gU_X6_28 rfl hd_X3_mark gV_X6_28 ⟨rfl, hd_X3_mark⟩ [0, 1] (by decide) rfl rfl 0 rfl rfl rfl ⟨Nat.zero_le _, Nat.zero_le _⟩ (Nat.le_of_ble_eq_true rfl) dX6_standsAsBase_2 rfl [(a0, .inr (a0_ci, .ref a0_marks :: .int (iI a0_size) :: a0_fx)), (a0_marks, .inl (cs.1, a0_marksN, .inl (aI a0_marksF)))] rfl ?_
  refine j_istore_n (pc := 5) (lv' := [(2, .int (iI r1)), (0, .ref a0), (1, .int (iI x1))]) ok dX6_standsAsBase_5 rfl (by decide) rfl ?_
  refine j_iload_n (pc := 6) 0 ok dX6_standsAsBase_6 rfl rfl ?_
  obtain ⟨r2, hr2, h⟩ := bd_inv h
  refine j_callN (pc := 7) ok (k_X7_isLetter (x0 := r1) hr2) gN_X6_64 gNw_X6_64 gNi_X6_64 gNs_X6_64 hd_X7_isLetter [] (by decide) rfl rfl rfl rfl ⟨Nat.zero_le _, Nat.zero_le _⟩ (Nat.le_of_ble_eq_true rfl) dX6_standsAsBase_7 rfl [(a0, .inr (a0_ci, .ref a0_marks :: .int (iI a0_size) :: a0_fx)), (a0_marks, .inl (cs.1, a0_marksN, .inl (aI a0_marksF)))] rfl ?_
  refine jn_use (P := fun z7 => q_J D κ 4 0 0 [(a0, .inr (a0_ci, .ref a0_marks :: .int (iI a0_size) :: a0_fx)), (a0_marks, .inl (cs.1, a0_marksN, .inl (aI a0_marksF)))] [(0, .ref a0), (1, .int (iI x1))] 30 [.int (iI z7)]) h (fun z7 h => ?_) (fun k4 hk4 h => ?_)
  · refine j_istore_n (pc := 30) (lv' := [(3, .int (iI z7)), (0, .ref a0), (1, .int (iI x1))]) ok dX6_standsAsBase_30 rfl (by decide) rfl ?_
    refine j_iload_n (pc := 31) 0 ok dX6_standsAsBase_31 rfl rfl ?_
    refine jn_use (P := fun z14 => q_J D κ 4 0 0 [(a0, .inr (a0_ci, .ref a0_marks :: .int (iI a0_size) :: a0_fx)), (a0_marks, .inl (cs.1, a0_marksN, .inl (aI a0_marksF)))] [] 55 [.int (iI z14)]) h (fun z14 h => ?_) (fun k9 hk9 h => ?_)
    · obtain ⟨hbo, h⟩ := gB_inv h
      obtain rfl := Option.some.inj h
      exact fin _ 55 hbo dX6_standsAsBase_55
    · refine jn_use (P := fun z13 => q_J D κ 4 0 0 [(a0, .inr (a0_ci, .ref a0_marks :: .int (iI a0_size) :: a0_fx)), (a0_marks, .inl (cs.1, a0_marksN, .inl (aI a0_marksF)))] [] 54 []) h (fun z13 h => ?_) (fun k8 hk8 h => ?_)
      · refine j_iconst (pc := 54) ok dX6_standsAsBase_54 ?_
        exact hk9 0 h
      · refine j_if_eq (pc := 32) 54 ok dX6_standsAsBase_32 (by decide) h (fun h => ?_) (fun h => ?_)
        · refine j_lv [] rfl ?_
          exact hk8 () h
        · refine j_aload_n (pc := 35) 1 ok dX6_standsAsBase_35 rfl rfl ?_
          refine j_aload_n (pc := 36) 1 ok dX6_standsAsBase_36 rfl rfl ?_
          refine j_iload_n (pc := 37) 2 ok dX6_standsAsBase_37 rfl rfl ?_
          obtain ⟨r10, hr10, h⟩ := bd_inv h
          refine j_callM (pc := 38) ok ha0 (k_X3_itemEnd (a0 := a0) (a0_marks := a0_marks) (a0_ci := a0_ci) (a0_fx := a0_fx) (a0_marksN := a0_marksN) (a0_size := a0_size) (a0_marksF := a0_marksF) (x1 := x1) ha0 hr10) gU_X6_70 rfl hd_X3_itemEnd gV_X6_70 ⟨rfl, hd_X3_itemEnd⟩ [0, 1] (by decide) rfl rfl 0 rfl rfl rfl ⟨Nat.zero_le _, Nat.zero_le _⟩ (Nat.le_of_ble_eq_true rfl) dX6_standsAsBase_38 rfl [(a0, .inr (a0_ci, .ref a0_marks :: .int (iI a0_size) :: a0_fx)), (a0_marks, .inl (cs.1, a0_marksN, .inl (aI a0_marksF)))] rfl ?_
          obtain ⟨r11, hr11, h⟩ := bd_inv h
          refine j_callM (pc := 41) ok ha0 (k_X3_mark (a0 := a0) (a0_marks := a0_marks) (a0_ci := a0_ci) (a0_fx := a0_fx) (a0_marksN := a0_marksN) (a0_size := a0_size) (a0_marksF := a0_marksF) (x1 := r10) ha0 hr11) gU_X6_28 rfl hd_X3_mark gV_X6_28 ⟨rfl, hd_X3_mark⟩ [0, 1] (by decide) rfl rfl 0 rfl rfl rfl ⟨Nat.zero_le _, Nat.zero_le _⟩ (Nat.le_of_ble_eq_true rfl) dX6_standsAsBase_41 rfl [(a0, .inr (a0_ci, .ref a0_marks :: .int (iI a0_size) :: a0_fx)), (a0_marks, .inl (cs.1, a0_marksN, .inl (aI a0_marksF)))] rfl ?_
          obtain ⟨r12, hr12, h⟩ := bd_inv h
          refine j_callN (pc := 44) ok (k_X7_startsItem (x0 := r11) hr12) gN_X6_73 gNw_X6_73 gNi_X6_73 gNs_X6_73 hd_X7_startsItem [] (by decide) rfl rfl rfl rfl ⟨Nat.zero_le _, Nat.zero_le _⟩ (Nat.le_of_ble_eq_true rfl) dX6_standsAsBase_44 rfl [(a0, .inr (a0_ci, .ref a0_marks :: .int (iI a0_size) :: a0_fx)), (a0_marks, .inl (cs.1, a0_marksN, .inl (aI a0_marksF)))] rfl ?_
          refine j_if_ne (pc := 47) 54 ok dX6_standsAsBase_47 (by decide) h (fun h => ?_) (fun h => ?_)
          · refine j_lv [] rfl ?_
            exact hk8 () h
          · refine j_iconst (pc := 50) ok dX6_standsAsBase_50 ?_
            refine j_goto (pc := 51) 55 ok dX6_standsAsBase_51 (by decide) ?_
            refine j_lv [] rfl ?_
            exact hk9 1 h
  · refine jn_use (P := fun z6 => q_J D κ 4 0 0 [(a0, .inr (a0_ci, .ref a0_marks :: .int (iI a0_size) :: a0_fx)), (a0_marks, .inl (cs.1, a0_marksN, .inl (aI a0_marksF)))] [(0, .ref a0), (1, .int (iI x1))] 25 []) h (fun z6 h => ?_) (fun k3 hk3 h => ?_)
    · refine j_iconst (pc := 25) ok dX6_standsAsBase_25 ?_
      refine j_goto (pc := 26) 30 ok dX6_standsAsBase_26 (by decide) ?_
      exact hk4 1 h
    · refine j_if_ne (pc := 10) 25 ok dX6_standsAsBase_10 (by decide) h (fun h => ?_) (fun h => ?_)
      · refine j_lv [1, 2] rfl ?_
        exact hk3 () h
      · refine j_iload_n (pc := 13) 0 ok dX6_standsAsBase_13 rfl rfl ?_
        obtain ⟨r5, hr5, h⟩ := bd_inv h
        refine j_callN (pc := 14) ok (k_X7_isDigit (x0 := r1) hr5) gN_X6_67 gNw_X6_67 gNi_X6_67 gNs_X6_67 hd_X7_isDigit [] (by decide) rfl rfl rfl rfl ⟨Nat.zero_le _, Nat.zero_le _⟩ (Nat.le_of_ble_eq_true rfl) dX6_standsAsBase_14 rfl [(a0, .inr (a0_ci, .ref a0_marks :: .int (iI a0_size) :: a0_fx)), (a0_marks, .inl (cs.1, a0_marksN, .inl (aI a0_marksF)))] rfl ?_
        refine j_if_ne (pc := 17) 25 ok dX6_standsAsBase_17 (by decide) h (fun h => ?_) (fun h => ?_)
        · refine j_lv [1, 2] rfl ?_
          exact hk3 () h
        · refine j_iload_n (pc := 20) 0 ok dX6_standsAsBase_20 rfl rfl ?_
          refine j_iconst (pc := 21) ok dX6_standsAsBase_21 ?_
          refine j_icmp_ne (pc := 22) 29 ok dX6_standsAsBase_22 (by decide) h (fun h => ?_) (fun h => ?_)
          · refine j_iconst (pc := 29) ok dX6_standsAsBase_29 ?_
            refine j_lv [1, 2] rfl ?_
            exact hk4 0 h
          · refine j_lv [1, 2] rfl ?_
            exact hk3 () h
def f_X6_beginStructure (a1_marksN : Nat) (a0_length : Int) (a0_bracketedF : (Nat → Int)) (a0_signsF : (Nat → Int)) (a1_size : Int) (a1_marksF : (Nat → Int)) (x2 : Int) (x3 : Int) : Option (Int × (Nat → Int) × (Nat → Int)) := bd (f_X3_mark a1_marksN a1_size a1_marksF x2) (fun r1 => jn (fun (z23 : Int × (Nat → Int) × (Nat → Int)) => some (z23.1, z23.2.1, z23.2.2)) (fun k2 => cEq r1 1 (bd (f_X6_standsAsOperand a1_marksN a1_size a1_marksF (x2 + 1)) (fun r19 => jn (fun (z21 : Int) => bd (f_X6_beginSlot a0_length a0_bracketedF a0_signsF x3 z21) (fun r22 => k2 (r22.1, r22.2.1, r22.2.2))) (fun k20 => cEq r19 0 (k20 1) (k20 0)))) (bd (f_X7_isScript r1) (fun r3 => cEq r3 0 (jn (fun (z6 : Int × (Nat → Int)) => bd (f_X6_beginSlot z6.1 a0_bracketedF z6.2 x3 1) (fun r7 => k2 (r7.1, r7.2.1, r7.2.2))) (fun k4 => cEq r1 4 (bd (f_X6_put a0_length a0_signsF 114) (fun r5 => k4 (r5.1, r5.2))) (k4 (a0_length, a0_signsF)))) (bd (f_X3_mark a1_marksN a1_size a1_marksF (x2 - 1)) (fun r8 => jn (fun (z11 : Int × (Nat → Int)) => jn (fun (z13 : Int) => bd (f_X6_put z11.1 z11.2 z13) (fun r14 => bd (f_X6_standsAsBase a1_marksN a1_size a1_marksF (x2 + 1)) (fun r15 => jn (fun (z17 : Int) => bd (f_X6_beginSlot r14.1 a0_bracketedF r14.2 x3 z17) (fun r18 => k2 (r18.1, r18.2.1, r18.2.2))) (fun k16 => cEq r15 0 (k16 1) (k16 0))))) (fun k12 => cEq r1 2 (k12 94) (k12 95))) (fun k9 => cEq r8 11 (bd (f_X6_put a0_length a0_signsF 32) (fun r10 => k9 (r10.1, r10.2))) (k9 (a0_length, a0_signsF)))))))))
set_option maxRecDepth 100000 in
set_option maxHeartbeats 4000000 in
theorem k_X6_beginStructure {D : va_G} {cs : q_CS} {a0 a0_signs a0_bracketed a1 a1_marks : Nat} {a1_marksN : Nat} {a1_ci : Nat} {a1_fx : List Value} {a0_length a1_size : Int} {a0_bracketedF a0_signsF a1_marksF : (Nat → Int)} {x2 x3 : Int} {r : (Int × (Nat → Int) × (Nat → Int))} (ha1 : q_mk a1_ci a1_fx) (h : f_X6_beginStructure a1_marksN a0_length a0_bracketedF a0_signsF a1_size a1_marksF x2 x3 = some r) : q_M D cs yX6_beginStructure cX6_beginStructure 6 none 3 69 [.ref a0, .ref a1, .int (iI x2), .int (iI x3)] [(a0, .inr (6, [.ref a0_signs, .int (iI a0_length), .ref a0_bracketed])), (a0_bracketed, .inl (cs.2.1, 6, .inl (aI a0_bracketedF))), (a0_signs, .inl (cs.1, 300, .inl (aI a0_signsF))), (a1, .inr (a1_ci, .ref a1_marks :: .int (iI a1_size) :: a1_fx)), (a1_marks, .inl (cs.1, a1_marksN, .inl (aI a1_marksF)))] none [(a0, .inr (6, [.ref a0_signs, .int (iI r.1), .ref a0_bracketed])), (a0_bracketed, .inl (cs.2.1, 6, .inl (aI r.2.1))), (a0_signs, .inl (cs.1, 300, .inl (aI r.2.2))), (a1, .inr (a1_ci, .ref a1_marks :: .int (iI a1_size) :: a1_fx)), (a1_marks, .inl (cs.1, a1_marksN, .inl (aI a1_marksF)))] := by
  refine q_start_v [(0, .ref a0), (1, .ref a1), (2, .int (iI x2)), (3, .int (iI x3))] RX6 rfl (by decide +kernel) rfl (Nat.le_of_ble_eq_true rfl) (fun κ ok fin => ?_)
  unfold f_X6_beginStructure at h
  refine j_aload_n (pc := 0) 1 ok dX6_beginStructure_0 rfl rfl ?_
  refine j_iload_n (pc := 1) 2 ok dX6_beginStructure_1 rfl rfl ?_
  obtain ⟨r1, hr1, h⟩ := bd_inv h
  refine j_callM (pc := 2) ok ha1 (k_X3_mark (a0 := a1) (a0_marks := a1_marks) (a0_ci := a1_ci) (a0_fx := a1_fx) (a0_marksN := a1_marksN) (a0_size := a1_size) (a0_marksF := a1_marksF) (x1 := x2) ha1 hr1) gU_X6_28 rfl hd_X3_mark gV_X6_28 ⟨rfl, hd_X3_mark⟩ [3, 4] (by decide) rfl rfl 3 rfl rfl rfl ⟨Nat.zero_le _, Nat.zero_le _⟩ (Nat.le_of_ble_eq_true rfl) dX6_beginStructure_2 rfl [(a0, .inr (6, [.ref a0_signs, .int (iI a0_length), .ref a0_bracketed])), (a0_bracketed, .inl (cs.2.1, 6, .inl (aI a0_bracketedF))), (a0_signs, .inl (cs.1, 300, .inl (aI a0_signsF))), (a1, .inr (a1_ci, .ref a1_marks :: .int (iI a1_size) :: a1_fx)), (a1_marks, .inl (cs.1, a1_marksN, .inl (aI a1_marksF)))] rfl ?_
  refine j_istore (pc := 5) (lv' := [(4, .int (iI r1)), (0, .ref a0), (1, .ref a1), (2, .int (iI x2)), (3, .int (iI x3))]) ok dX6_beginStructure_5 (by decide) rfl ?_
  refine j_iload_n (pc := 7) 3 ok dX6_beginStructure_7 rfl rfl ?_
  refine j_iconst (pc := 8) ok dX6_beginStructure_8 ?_
  refine j_iadd (pc := 9) ok dX6_beginStructure_9 ?_
  refine j_istore (pc := 10) (lv' := [(5, .int (iI (x2 + 1))), (4, .int (iI r1)), (0, .ref a0), (1, .ref a1), (2, .int (iI x2)), (3, .int (iI x3))]) ok dX6_beginStructure_10 (by decide) rfl ?_
  refine j_iload (pc := 12) 1 ok dX6_beginStructure_12 rfl ?_
  refine j_iconst (pc := 14) ok dX6_beginStructure_14 ?_
  refine jn_use (P := fun z23 => q_J D κ 6 0 0 [(a0, .inr (6, [.ref a0_signs, .int (iI z23.1), .ref a0_bracketed])), (a0_bracketed, .inl (cs.2.1, 6, .inl (aI z23.2.1))), (a0_signs, .inl (cs.1, 300, .inl (aI z23.2.2))), (a1, .inr (a1_ci, .ref a1_marks :: .int (iI a1_size) :: a1_fx)), (a1_marks, .inl (cs.1, a1_marksN, .inl (aI a1_marksF)))] [] 123 []) h (fun z23 h => ?_) (fun k2 hk2 h => ?_)
  · obtain rfl := Option.some.inj h
    exact fin _ 123 dX6_beginStructure_123
  · refine j_icmp_ne (pc := 15) 40 ok dX6_beginStructure_15 (by decide) h (fun h => ?_) (fun h => ?_)
    · refine j_iload (pc := 40) 1 ok dX6_beginStructure_40 rfl ?_
      obtain ⟨r3, hr3, h⟩ := bd_inv h
      refine j_callN (pc := 42) ok (k_X7_isScript (x0 := r1) hr3) gN_X6_58 gNw_X6_58 gNi_X6_58 gNs_X6_58 hd_X7_isScript [] (by decide) rfl rfl rfl rfl ⟨Nat.zero_le _, Nat.zero_le _⟩ (Nat.le_of_ble_eq_true rfl) dX6_beginStructure_42 rfl [(a0, .inr (6, [.ref a0_signs, .int (iI a0_length), .ref a0_bracketed])), (a0_bracketed, .inl (cs.2.1, 6, .inl (aI a0_bracketedF))), (a0_signs, .inl (cs.1, 300, .inl (aI a0_signsF))), (a1, .inr (a1_ci, .ref a1_marks :: .int (iI a1_size) :: a1_fx)), (a1_marks, .inl (cs.1, a1_marksN, .inl (aI a1_marksF)))] rfl ?_
      refine j_if_eq (pc := 45) 105 ok dX6_beginStructure_45 (by decide) h (fun h => ?_) (fun h => ?_)
      · refine j_iload (pc := 105) 1 ok dX6_beginStructure_105 rfl ?_
        refine j_iconst (pc := 107) ok dX6_beginStructure_107 ?_
        refine jn_use (P := fun z6 => q_J D κ 6 0 0 [(a0, .inr (6, [.ref a0_signs, .int (iI z6.1), .ref a0_bracketed])), (a0_bracketed, .inl (cs.2.1, 6, .inl (aI a0_bracketedF))), (a0_signs, .inl (cs.1, 300, .inl (aI z6.2))), (a1, .inr (a1_ci, .ref a1_marks :: .int (iI a1_size) :: a1_fx)), (a1_marks, .inl (cs.1, a1_marksN, .inl (aI a1_marksF)))] [(0, .ref a0), (3, .int (iI x3))] 117 []) h (fun z6 h => ?_) (fun k4 hk4 h => ?_)
        · refine j_aload_n (pc := 117) 0 ok dX6_beginStructure_117 rfl rfl ?_
          refine j_iload_n (pc := 118) 1 ok dX6_beginStructure_118 rfl rfl ?_
          refine j_iconst (pc := 119) ok dX6_beginStructure_119 ?_
          obtain ⟨r7, hr7, h⟩ := bd_inv h
          refine j_callV (pc := 120) ok (k_X6_beginSlot (a0 := a0) (a0_signs := a0_signs) (a0_bracketed := a0_bracketed) (a0_length := z6.1) (a0_bracketedF := a0_bracketedF) (a0_signsF := z6.2) (x1 := x3) (x2 := 1) hr7) gV_X6_51 ⟨rfl, hd_X6_beginSlot⟩ [0, 1, 2] (by decide) rfl rfl 0 rfl rfl rfl rfl ⟨Nat.zero_le _, Nat.zero_le _⟩ (Nat.le_of_ble_eq_true rfl) dX6_beginStructure_120 rfl [(a0, .inr (6, [.ref a0_signs, .int (iI r7.1), .ref a0_bracketed])), (a0_bracketed, .inl (cs.2.1, 6, .inl (aI r7.2.1))), (a0_signs, .inl (cs.1, 300, .inl (aI r7.2.2))), (a1, .inr (a1_ci, .ref a1_marks :: .int (iI a1_size) :: a1_fx)), (a1_marks, .inl (cs.1, a1_marksN, .inl (aI a1_marksF)))] rfl ?_
          refine j_lv [] rfl ?_
          exact hk2 (r7.1, r7.2.1, r7.2.2) h
        · refine j_icmp_ne (pc := 108) 117 ok dX6_beginStructure_108 (by decide) h (fun h => ?_) (fun h => ?_)
          · refine j_lv [2, 5] rfl ?_
            exact hk4 (a0_length, a0_signsF) h
          · refine j_aload_n (pc := 111) 2 ok dX6_beginStructure_111 rfl rfl ?_
            refine j_bipush (pc := 112) ok dX6_beginStructure_112 (by decide) ?_
            obtain ⟨r5, hr5, h⟩ := bd_inv h
            refine j_callV (pc := 114) ok (k_X6_put (a0 := a0) (a0_signs := a0_signs) (a0_bracketed := a0_bracketed) (a0_length := a0_length) (a0_signsF := a0_signsF) (x1 := 114) hr5) gV_X6_44 ⟨rfl, hd_X6_put⟩ [0, 2] (by decide) rfl rfl 0 rfl rfl rfl rfl ⟨Nat.zero_le _, Nat.zero_le _⟩ (Nat.le_of_ble_eq_true rfl) dX6_beginStructure_114 rfl [(a0, .inr (6, [.ref a0_signs, .int (iI r5.1), .ref a0_bracketed])), (a0_bracketed, .inl (cs.2.1, 6, .inl (aI a0_bracketedF))), (a0_signs, .inl (cs.1, 300, .inl (aI r5.2))), (a1, .inr (a1_ci, .ref a1_marks :: .int (iI a1_size) :: a1_fx)), (a1_marks, .inl (cs.1, a1_marksN, .inl (aI a1_marksF)))] rfl ?_
            refine j_lv [2, 5] rfl ?_
            exact hk4 (r5.1, r5.2) h
      · refine j_aload_n (pc := 48) 3 ok dX6_beginStructure_48 rfl rfl ?_
        refine j_iload_n (pc := 49) 4 ok dX6_beginStructure_49 rfl rfl ?_
        refine j_iconst (pc := 50) ok dX6_beginStructure_50 ?_
        refine j_isub (pc := 51) ok dX6_beginStructure_51 ?_
        obtain ⟨r8, hr8, h⟩ := bd_inv h
        refine j_callM (pc := 52) ok ha1 (k_X3_mark (a0 := a1) (a0_marks := a1_marks) (a0_ci := a1_ci) (a0_fx := a1_fx) (a0_marksN := a1_marksN) (a0_size := a1_size) (a0_marksF := a1_marksF) (x1 := x2 - 1) ha1 hr8) gU_X6_28 rfl hd_X3_mark gV_X6_28 ⟨rfl, hd_X3_mark⟩ [3, 4] (by decide) rfl rfl 3 rfl rfl rfl ⟨Nat.zero_le _, Nat.zero_le _⟩ (Nat.le_of_ble_eq_true rfl) dX6_beginStructure_52 rfl [(a0, .inr (6, [.ref a0_signs, .int (iI a0_length), .ref a0_bracketed])), (a0_bracketed, .inl (cs.2.1, 6, .inl (aI a0_bracketedF))), (a0_signs, .inl (cs.1, 300, .inl (aI a0_signsF))), (a1, .inr (a1_ci, .ref a1_marks :: .int (iI a1_size) :: a1_fx)), (a1_marks, .inl (cs.1, a1_marksN, .inl (aI a1_marksF)))] rfl ?_
        refine j_bipush (pc := 55) ok dX6_beginStructure_55 (by decide) ?_
        refine jn_use (P := fun z11 => q_J D κ 6 0 0 [(a0, .inr (6, [.ref a0_signs, .int (iI z11.1), .ref a0_bracketed])), (a0_bracketed, .inl (cs.2.1, 6, .inl (aI a0_bracketedF))), (a0_signs, .inl (cs.1, 300, .inl (aI z11.2))), (a1, .inr (a1_ci, .ref a1_marks :: .int (iI a1_size) :: a1_fx)), (a1_marks, .inl (cs.1, a1_marksN, .inl (aI a1_marksF)))] [(0, .ref a0), (1, .ref a1), (3, .int (iI x3)), (4, .int (iI r1)), (5, .int (iI (x2 + 1)))] 66 []) h (fun z11 h => ?_) (fun k9 hk9 h => ?_)
        · refine j_aload_n (pc := 66) 0 ok dX6_beginStructure_66 rfl rfl ?_
          refine j_iload (pc := 67) 3 ok dX6_beginStructure_67 rfl ?_
          refine j_iconst (pc := 69) ok dX6_beginStructure_69 ?_
          refine jn_use (P := fun z13 => q_J D κ 6 0 0 [(a0, .inr (6, [.ref a0_signs, .int (iI z11.1), .ref a0_bracketed])), (a0_bracketed, .inl (cs.2.1, 6, .inl (aI a0_bracketedF))), (a0_signs, .inl (cs.1, 300, .inl (aI z11.2))), (a1, .inr (a1_ci, .ref a1_marks :: .int (iI a1_size) :: a1_fx)), (a1_marks, .inl (cs.1, a1_marksN, .inl (aI a1_marksF)))] [(0, .ref a0), (1, .ref a1), (3, .int (iI x3)), (5, .int (iI (x2 + 1)))] 80 [.int (iI z13), .ref a0]) h (fun z13 h => ?_) (fun k12 hk12 h => ?_)
          · obtain ⟨r14, hr14, h⟩ := bd_inv h
            refine j_callV (pc := 80) ok (k_X6_put (a0 := a0) (a0_signs := a0_signs) (a0_bracketed := a0_bracketed) (a0_length := z11.1) (a0_signsF := z11.2) (x1 := z13) hr14) gV_X6_44 ⟨rfl, hd_X6_put⟩ [0, 2] (by decide) rfl rfl 0 rfl rfl rfl rfl ⟨Nat.zero_le _, Nat.zero_le _⟩ (Nat.le_of_ble_eq_true rfl) dX6_beginStructure_80 rfl [(a0, .inr (6, [.ref a0_signs, .int (iI r14.1), .ref a0_bracketed])), (a0_bracketed, .inl (cs.2.1, 6, .inl (aI a0_bracketedF))), (a0_signs, .inl (cs.1, 300, .inl (aI r14.2))), (a1, .inr (a1_ci, .ref a1_marks :: .int (iI a1_size) :: a1_fx)), (a1_marks, .inl (cs.1, a1_marksN, .inl (aI a1_marksF)))] rfl ?_
            refine j_aload_n (pc := 83) 0 ok dX6_beginStructure_83 rfl rfl ?_
            refine j_iload_n (pc := 84) 2 ok dX6_beginStructure_84 rfl rfl ?_
            refine j_aload_n (pc := 85) 1 ok dX6_beginStructure_85 rfl rfl ?_
            refine j_iload (pc := 86) 3 ok dX6_beginStructure_86 rfl ?_
            obtain ⟨r15, hr15, h⟩ := bd_inv h
            refine j_callS (pc := 88) ok (k_X6_standsAsBase (a0 := a1) (a0_marks := a1_marks) (a0_ci := a1_ci) (a0_fx := a1_fx) (a0_marksN := a1_marksN) (a0_size := a1_size) (a0_marksF := a1_marksF) (x1 := x2 + 1) ha1 hr15) gS_X6_61 hd_X6_standsAsBase [3, 4] (by decide) rfl rfl rfl rfl ⟨Nat.zero_le _, Nat.zero_le _⟩ (Nat.le_of_ble_eq_true rfl) dX6_beginStructure_88 rfl [(a0, .inr (6, [.ref a0_signs, .int (iI r14.1), .ref a0_bracketed])), (a0_bracketed, .inl (cs.2.1, 6, .inl (aI a0_bracketedF))), (a0_signs, .inl (cs.1, 300, .inl (aI r14.2))), (a1, .inr (a1_ci, .ref a1_marks :: .int (iI a1_size) :: a1_fx)), (a1_marks, .inl (cs.1, a1_marksN, .inl (aI a1_marksF)))] rfl ?_
            refine jn_use (P := fun z17 => q_J D κ 6 0 0 [(a0, .inr (6, [.ref a0_signs, .int (iI r14.1), .ref a0_bracketed])), (a0_bracketed, .inl (cs.2.1, 6, .inl (aI a0_bracketedF))), (a0_signs, .inl (cs.1, 300, .inl (aI r14.2))), (a1, .inr (a1_ci, .ref a1_marks :: .int (iI a1_size) :: a1_fx)), (a1_marks, .inl (cs.1, a1_marksN, .inl (aI a1_marksF)))] [] 99 [.int (iI z17), .int (iI x3), .ref a0]) h (fun z17 h => ?_) (fun k16 hk16 h => ?_)
            · obtain ⟨r18, hr18, h⟩ := bd_inv h
              refine j_callV (pc := 99) ok (k_X6_beginSlot (a0 := a0) (a0_signs := a0_signs) (a0_bracketed := a0_bracketed) (a0_length := r14.1) (a0_bracketedF := a0_bracketedF) (a0_signsF := r14.2) (x1 := x3) (x2 := z17) hr18) gV_X6_51 ⟨rfl, hd_X6_beginSlot⟩ [0, 1, 2] (by decide) rfl rfl 0 rfl rfl rfl rfl ⟨Nat.zero_le _, Nat.zero_le _⟩ (Nat.le_of_ble_eq_true rfl) dX6_beginStructure_99 rfl [(a0, .inr (6, [.ref a0_signs, .int (iI r18.1), .ref a0_bracketed])), (a0_bracketed, .inl (cs.2.1, 6, .inl (aI r18.2.1))), (a0_signs, .inl (cs.1, 300, .inl (aI r18.2.2))), (a1, .inr (a1_ci, .ref a1_marks :: .int (iI a1_size) :: a1_fx)), (a1_marks, .inl (cs.1, a1_marksN, .inl (aI a1_marksF)))] rfl ?_
              refine j_goto (pc := 102) 123 ok dX6_beginStructure_102 (by decide) ?_
              exact hk2 (r18.1, r18.2.1, r18.2.2) h
            · refine j_if_ne (pc := 91) 98 ok dX6_beginStructure_91 (by decide) h (fun h => ?_) (fun h => ?_)
              · refine j_iconst (pc := 98) ok dX6_beginStructure_98 ?_
                refine j_lv [] rfl ?_
                exact hk16 0 h
              · refine j_iconst (pc := 94) ok dX6_beginStructure_94 ?_
                refine j_goto (pc := 95) 99 ok dX6_beginStructure_95 (by decide) ?_
                refine j_lv [] rfl ?_
                exact hk16 1 h
          · refine j_icmp_ne (pc := 70) 78 ok dX6_beginStructure_70 (by decide) h (fun h => ?_) (fun h => ?_)
            · refine j_bipush (pc := 78) ok dX6_beginStructure_78 (by decide) ?_
              refine j_lv [0, 1, 2, 4] rfl ?_
              exact hk12 95 h
            · refine j_bipush (pc := 73) ok dX6_beginStructure_73 (by decide) ?_
              refine j_goto (pc := 75) 80 ok dX6_beginStructure_75 (by decide) ?_
              refine j_lv [0, 1, 2, 4] rfl ?_
              exact hk12 94 h
        · refine j_icmp_ne (pc := 57) 66 ok dX6_beginStructure_57 (by decide) h (fun h => ?_) (fun h => ?_)
          · refine j_lv [2, 3, 5, 1, 0] rfl ?_
            exact hk9 (a0_length, a0_signsF) h
          · refine j_aload_n (pc := 60) 2 ok dX6_beginStructure_60 rfl rfl ?_
            refine j_bipush (pc := 61) ok dX6_beginStructure_61 (by decide) ?_
            obtain ⟨r10, hr10, h⟩ := bd_inv h
            refine j_callV (pc := 63) ok (k_X6_put (a0 := a0) (a0_signs := a0_signs) (a0_bracketed := a0_bracketed) (a0_length := a0_length) (a0_signsF := a0_signsF) (x1 := 32) hr10) gV_X6_44 ⟨rfl, hd_X6_put⟩ [0, 2] (by decide) rfl rfl 0 rfl rfl rfl rfl ⟨Nat.zero_le _, Nat.zero_le _⟩ (Nat.le_of_ble_eq_true rfl) dX6_beginStructure_63 rfl [(a0, .inr (6, [.ref a0_signs, .int (iI r10.1), .ref a0_bracketed])), (a0_bracketed, .inl (cs.2.1, 6, .inl (aI a0_bracketedF))), (a0_signs, .inl (cs.1, 300, .inl (aI r10.2))), (a1, .inr (a1_ci, .ref a1_marks :: .int (iI a1_size) :: a1_fx)), (a1_marks, .inl (cs.1, a1_marksN, .inl (aI a1_marksF)))] rfl ?_
            refine j_lv [2, 3, 5, 1, 0] rfl ?_
            exact hk9 (r10.1, r10.2) h
    · refine j_aload_n (pc := 18) 2 ok dX6_beginStructure_18 rfl rfl ?_
      refine j_iload_n (pc := 19) 5 ok dX6_beginStructure_19 rfl rfl ?_
      refine j_aload_n (pc := 20) 3 ok dX6_beginStructure_20 rfl rfl ?_
      refine j_iload (pc := 21) 0 ok dX6_beginStructure_21 rfl ?_
      obtain ⟨r19, hr19, h⟩ := bd_inv h
      refine j_callS (pc := 23) ok (k_X6_standsAsOperand (a0 := a1) (a0_marks := a1_marks) (a0_ci := a1_ci) (a0_fx := a1_fx) (a0_marksN := a1_marksN) (a0_size := a1_size) (a0_marksF := a1_marksF) (x1 := x2 + 1) ha1 hr19) gS_X6_47 hd_X6_standsAsOperand [3, 4] (by decide) rfl rfl rfl rfl ⟨Nat.zero_le _, Nat.zero_le _⟩ (Nat.le_of_ble_eq_true rfl) dX6_beginStructure_23 rfl [(a0, .inr (6, [.ref a0_signs, .int (iI a0_length), .ref a0_bracketed])), (a0_bracketed, .inl (cs.2.1, 6, .inl (aI a0_bracketedF))), (a0_signs, .inl (cs.1, 300, .inl (aI a0_signsF))), (a1, .inr (a1_ci, .ref a1_marks :: .int (iI a1_size) :: a1_fx)), (a1_marks, .inl (cs.1, a1_marksN, .inl (aI a1_marksF)))] rfl ?_
      refine jn_use (P := fun z21 => q_J D κ 6 0 0 [(a0, .inr (6, [.ref a0_signs, .int (iI a0_length), .ref a0_bracketed])), (a0_bracketed, .inl (cs.2.1, 6, .inl (aI a0_bracketedF))), (a0_signs, .inl (cs.1, 300, .inl (aI a0_signsF))), (a1, .inr (a1_ci, .ref a1_marks :: .int (iI a1_size) :: a1_fx)), (a1_marks, .inl (cs.1, a1_marksN, .inl (aI a1_marksF)))] [] 34 [.int (iI z21), .int (iI x3), .ref a0]) h (fun z21 h => ?_) (fun k20 hk20 h => ?_)
      · obtain ⟨r22, hr22, h⟩ := bd_inv h
        refine j_callV (pc := 34) ok (k_X6_beginSlot (a0 := a0) (a0_signs := a0_signs) (a0_bracketed := a0_bracketed) (a0_length := a0_length) (a0_bracketedF := a0_bracketedF) (a0_signsF := a0_signsF) (x1 := x3) (x2 := z21) hr22) gV_X6_51 ⟨rfl, hd_X6_beginSlot⟩ [0, 1, 2] (by decide) rfl rfl 0 rfl rfl rfl rfl ⟨Nat.zero_le _, Nat.zero_le _⟩ (Nat.le_of_ble_eq_true rfl) dX6_beginStructure_34 rfl [(a0, .inr (6, [.ref a0_signs, .int (iI r22.1), .ref a0_bracketed])), (a0_bracketed, .inl (cs.2.1, 6, .inl (aI r22.2.1))), (a0_signs, .inl (cs.1, 300, .inl (aI r22.2.2))), (a1, .inr (a1_ci, .ref a1_marks :: .int (iI a1_size) :: a1_fx)), (a1_marks, .inl (cs.1, a1_marksN, .inl (aI a1_marksF)))] rfl ?_
        refine j_goto (pc := 37) 123 ok dX6_beginStructure_37 (by decide) ?_
        exact hk2 (r22.1, r22.2.1, r22.2.2) h
      · refine j_if_ne (pc := 26) 33 ok dX6_beginStructure_26 (by decide) h (fun h => ?_) (fun h => ?_)
        · refine j_iconst (pc := 33) ok dX6_beginStructure_33 ?_
          refine j_lv [] rfl ?_
          exact hk20 0 h
        · refine j_iconst (pc := 29) ok dX6_beginStructure_29 ?_
          refine j_goto (pc := 30) 34 ok dX6_beginStructure_30 (by decide) ?_
          refine j_lv [] rfl ?_
          exact hk20 1 h
def f_X6_endSlot (a0_length : Int) (a0_bracketedF : (Nat → Int)) (a0_signsF : (Nat → Int)) (x1 : Int) : Option (Int × (Nat → Int)) := jn (fun (z3 : Int × (Nat → Int)) => some (z3.1, z3.2)) (fun k1 => cLt x1 0 (k1 (a0_length, a0_signsF)) (cLt x1 6 (gIn x1 6 (cEq (a0_bracketedF x1.toNat) 0 (k1 (a0_length, a0_signsF)) (bd (f_X6_put a0_length a0_signsF 41) (fun r2 => k1 (r2.1, r2.2))))) (k1 (a0_length, a0_signsF))))
set_option maxRecDepth 100000 in
set_option maxHeartbeats 4000000 in
theorem k_X6_endSlot {D : va_G} {cs : q_CS} {a0 a0_signs a0_bracketed : Nat} {a0_length : Int} {a0_bracketedF a0_signsF : (Nat → Int)} {x1 : Int} {r : (Int × (Nat → Int))} (h : f_X6_endSlot a0_length a0_bracketedF a0_signsF x1 = some r) : q_M D cs yX6_endSlot cX6_endSlot 2 none 1 21 [.ref a0, .int (iI x1)] [(a0, .inr (6, [.ref a0_signs, .int (iI a0_length), .ref a0_bracketed])), (a0_bracketed, .inl (cs.2.1, 6, .inl (aI a0_bracketedF))), (a0_signs, .inl (cs.1, 300, .inl (aI a0_signsF)))] none [(a0, .inr (6, [.ref a0_signs, .int (iI r.1), .ref a0_bracketed])), (a0_bracketed, .inl (cs.2.1, 6, .inl (aI a0_bracketedF))), (a0_signs, .inl (cs.1, 300, .inl (aI r.2)))] := by
  refine q_start_v [(0, .ref a0), (1, .int (iI x1))] RX6 rfl (by decide +kernel) rfl (Nat.le_of_ble_eq_true rfl) (fun κ ok fin => ?_)
  unfold f_X6_endSlot at h
  refine j_iload_n (pc := 0) 1 ok dX6_endSlot_0 rfl rfl ?_
  refine jn_use (P := fun z3 => q_J D κ 2 0 0 [(a0, .inr (6, [.ref a0_signs, .int (iI z3.1), .ref a0_bracketed])), (a0_bracketed, .inl (cs.2.1, 6, .inl (aI a0_bracketedF))), (a0_signs, .inl (cs.1, 300, .inl (aI z3.2)))] [] 28 []) h (fun z3 h => ?_) (fun k1 hk1 h => ?_)
  · obtain rfl := Option.some.inj h
    exact fin _ 28 dX6_endSlot_28
  · refine j_if_lt (pc := 1) 28 ok dX6_endSlot_1 (by decide) h (fun h => ?_) (fun h => ?_)
    · refine j_lv [] rfl ?_
      exact hk1 (a0_length, a0_signsF) h
    · refine j_iload_n (pc := 4) 1 ok dX6_endSlot_4 rfl rfl ?_
      refine j_aload_n (pc := 5) 0 ok dX6_endSlot_5 rfl rfl ?_
      refine gf_X6_15_6 (pc := 6) 0 ok rfl dX6_endSlot_6 ?_
      refine j_alen (pc := 9) 1 1 ok rfl rfl dX6_endSlot_9 ?_
      refine j_icmp_ge (pc := 10) 28 ok dX6_endSlot_10 (by decide) h (fun h => ?_) (fun h => ?_)
      · refine j_lv [] rfl ?_
        exact hk1 (a0_length, a0_signsF) h
      · refine j_aload_n (pc := 13) 0 ok dX6_endSlot_13 rfl rfl ?_
        refine gf_X6_15_6 (pc := 14) 0 ok rfl dX6_endSlot_14 ?_
        refine j_iload_n (pc := 17) 1 ok dX6_endSlot_17 rfl rfl ?_
        refine j_zald (pc := 18) 1 ok rfl dX6_endSlot_18 h (fun h => ?_)
        refine j_if_eq (pc := 19) 28 ok dX6_endSlot_19 (by decide) h (fun h => ?_) (fun h => ?_)
        · refine j_lv [] rfl ?_
          exact hk1 (a0_length, a0_signsF) h
        · refine j_aload_n (pc := 22) 0 ok dX6_endSlot_22 rfl rfl ?_
          refine j_bipush (pc := 23) ok dX6_endSlot_23 (by decide) ?_
          obtain ⟨r2, hr2, h⟩ := bd_inv h
          refine j_callV (pc := 25) ok (k_X6_put (a0 := a0) (a0_signs := a0_signs) (a0_bracketed := a0_bracketed) (a0_length := a0_length) (a0_signsF := a0_signsF) (x1 := 41) hr2) gV_X6_44 ⟨rfl, hd_X6_put⟩ [0, 2] (by decide) rfl rfl 0 rfl rfl rfl rfl ⟨Nat.zero_le _, Nat.zero_le _⟩ (Nat.le_of_ble_eq_true rfl) dX6_endSlot_25 rfl [(a0, .inr (6, [.ref a0_signs, .int (iI r2.1), .ref a0_bracketed])), (a0_bracketed, .inl (cs.2.1, 6, .inl (aI a0_bracketedF))), (a0_signs, .inl (cs.1, 300, .inl (aI r2.2)))] rfl ?_
          refine j_lv [] rfl ?_
          exact hk1 (r2.1, r2.2) h
def f_X6_write_9 (a1_marksN : Nat) (a1_size : Int) (a1_marksF : (Nat → Int)) (e9_117 : Int × (Nat → Int) × (Nat → Int) × Int × Int → Option (Int × (Nat → Int) × (Nat → Int))) : Nat → Int → (Nat → Int) → (Nat → Int) → Int → Int → Option (Int × (Nat → Int) × (Nat → Int))
  | 0, _, _, _, _, _ => none
  | n + 1, a0_length, a0_bracketedF, a0_signsF, y2, y3 => cLt y3 a1_size (bd (f_X3_mark a1_marksN a1_size a1_marksF y3) (fun r1 => bd (f_X7_opens r1) (fun r2 => jn (fun (z14 : Int × (Nat → Int) × (Nat → Int) × Int) => f_X6_write_9 a1_marksN a1_size a1_marksF e9_117 n z14.1 z14.2.1 z14.2.2.1 z14.2.2.2 (y3 + 1)) (fun k3 => cEq r2 0 (cEq r1 6 (bd (f_X6_endSlot a0_length a0_bracketedF a0_signsF y2) (fun r7 => bd (f_X6_put r7.1 r7.2 47) (fun r8 => bd (f_X6_standsAsOperand a1_marksN a1_size a1_marksF (y3 + 1)) (fun r9 => jn (fun (z11 : Int) => bd (f_X6_beginSlot r8.1 a0_bracketedF r8.2 y2 z11) (fun r12 => k3 (r12.1, r12.2.1, r12.2.2, y2))) (fun k10 => cEq r9 0 (k10 1) (k10 0)))))) (bd (f_X7_closes r1) (fun r4 => cEq r4 0 (bd (f_X6_put a0_length a0_signsF r1) (fun r5 => k3 (r5.1, a0_bracketedF, r5.2, y2))) (bd (f_X6_endSlot a0_length a0_bracketedF a0_signsF y2) (fun r6 => k3 (r6.1, a0_bracketedF, r6.2, y2 + (-1))))))) (bd (f_X6_beginStructure a1_marksN a0_length a0_bracketedF a0_signsF a1_size a1_marksF y3 (y2 + 1)) (fun r13 => k3 (r13.1, r13.2.1, r13.2.2, y2 + 1))))))) (e9_117 (a0_length, a0_bracketedF, a0_signsF, y2, y3))
set_option maxRecDepth 100000 in
theorem l_X6_write_9 {D : va_G} {cs : q_CS} {κ : q_X} {a0 a0_signs a0_bracketed a1 a1_marks : Nat} {a1_marksN : Nat} {a1_ci : Nat} {a1_fx : List Value} {a1_size : Int} {a1_marksF : (Nat → Int)} {r : (Int × (Nat → Int) × (Nat → Int))} {e9_117 : Int × (Nat → Int) × (Nat → Int) × Int × Int → Option (Int × (Nat → Int) × (Nat → Int))} (ha1 : q_mk a1_ci a1_fx) (ok : q_ok D cs κ cX6_write 5 RX6 (q_rm 4 94)) (fin : ∀ (lv : List (Nat × Value)) (pc : Nat), decode cX6_write pc = .ok (.return_, 1) → q_J D κ 5 0 0 [(a0, .inr (6, [.ref a0_signs, .int (iI r.1), .ref a0_bracketed])), (a0_bracketed, .inl (cs.2.1, 6, .inl (aI r.2.1))), (a0_signs, .inl (cs.1, 300, .inl (aI r.2.2))), (a1, .inr (a1_ci, .ref a1_marks :: .int (iI a1_size) :: a1_fx)), (a1_marks, .inl (cs.1, a1_marksN, .inl (aI a1_marksF)))] lv pc []) (he9_117 : ∀ x : Int × (Nat → Int) × (Nat → Int) × Int × Int, e9_117 x = some r → q_J D κ 5 0 0 [(a0, .inr (6, [.ref a0_signs, .int (iI x.1), .ref a0_bracketed])), (a0_bracketed, .inl (cs.2.1, 6, .inl (aI x.2.1))), (a0_signs, .inl (cs.1, 300, .inl (aI x.2.2.1))), (a1, .inr (a1_ci, .ref a1_marks :: .int (iI a1_size) :: a1_fx)), (a1_marks, .inl (cs.1, a1_marksN, .inl (aI a1_marksF)))] [] 117 []) : ∀ (n : Nat) (a0_length : Int) (a0_bracketedF : (Nat → Int)) (a0_signsF : (Nat → Int)) (y2 : Int) (y3 : Int), f_X6_write_9 a1_marksN a1_size a1_marksF e9_117 n a0_length a0_bracketedF a0_signsF y2 y3 = some r → q_J D κ 5 0 0 [(a0, .inr (6, [.ref a0_signs, .int (iI a0_length), .ref a0_bracketed])), (a0_bracketed, .inl (cs.2.1, 6, .inl (aI a0_bracketedF))), (a0_signs, .inl (cs.1, 300, .inl (aI a0_signsF))), (a1, .inr (a1_ci, .ref a1_marks :: .int (iI a1_size) :: a1_fx)), (a1_marks, .inl (cs.1, a1_marksN, .inl (aI a1_marksF)))] [(0, .ref a0), (1, .ref a1), (2, .int (iI y2)), (3, .int (iI y3))] 9 [] := by
  intro n
  induction n with
  | zero =>
    intro a0_length a0_bracketedF a0_signsF y2 y3 h
    exact absurd h (by unfold f_X6_write_9; exact fun z => by cases z)
  | succ n ih =>
    intro a0_length a0_bracketedF a0_signsF y2 y3 h
    unfold f_X6_write_9 at h
    refine j_iload_n (pc := 9) 3 ok dX6_write_9 rfl rfl ?_
    refine j_aload_n (pc := 10) 1 ok dX6_write_10 rfl rfl ?_
    refine gm_X6_23 (pc := 11) 3 ok ha1 rfl dX6_write_11 ?_
    refine j_icmp_ge (pc := 14) 117 ok dX6_write_14 (by decide) h (fun h => ?_) (fun h => ?_)
    · refine j_lv [] rfl ?_
      exact he9_117 (a0_length, a0_bracketedF, a0_signsF, y2, y3) h
    · refine j_aload_n (pc := 17) 1 ok dX6_write_17 rfl rfl ?_
      refine j_iload_n (pc := 18) 3 ok dX6_write_18 rfl rfl ?_
      obtain ⟨r1, hr1, h⟩ := bd_inv h
      refine j_callM (pc := 19) ok ha1 (k_X3_mark (a0 := a1) (a0_marks := a1_marks) (a0_ci := a1_ci) (a0_fx := a1_fx) (a0_marksN := a1_marksN) (a0_size := a1_size) (a0_marksF := a1_marksF) (x1 := y3) ha1 hr1) gU_X6_28 rfl hd_X3_mark gV_X6_28 ⟨rfl, hd_X3_mark⟩ [3, 4] (by decide) rfl rfl 3 rfl rfl rfl ⟨Nat.zero_le _, Nat.zero_le _⟩ (Nat.le_of_ble_eq_true rfl) dX6_write_19 rfl [(a0, .inr (6, [.ref a0_signs, .int (iI a0_length), .ref a0_bracketed])), (a0_bracketed, .inl (cs.2.1, 6, .inl (aI a0_bracketedF))), (a0_signs, .inl (cs.1, 300, .inl (aI a0_signsF))), (a1, .inr (a1_ci, .ref a1_marks :: .int (iI a1_size) :: a1_fx)), (a1_marks, .inl (cs.1, a1_marksN, .inl (aI a1_marksF)))] rfl ?_
      refine j_istore (pc := 22) (lv' := [(4, .int (iI r1)), (0, .ref a0), (1, .ref a1), (2, .int (iI y2)), (3, .int (iI y3))]) ok dX6_write_22 (by decide) rfl ?_
      refine j_iload (pc := 24) 0 ok dX6_write_24 rfl ?_
      obtain ⟨r2, hr2, h⟩ := bd_inv h
      refine j_callN (pc := 26) ok (k_X7_opens (x0 := r1) hr2) gN_X6_32 gNw_X6_32 gNi_X6_32 gNs_X6_32 hd_X7_opens [] (by decide) rfl rfl rfl rfl ⟨Nat.zero_le _, Nat.zero_le _⟩ (Nat.le_of_ble_eq_true rfl) dX6_write_26 rfl [(a0, .inr (6, [.ref a0_signs, .int (iI a0_length), .ref a0_bracketed])), (a0_bracketed, .inl (cs.2.1, 6, .inl (aI a0_bracketedF))), (a0_signs, .inl (cs.1, 300, .inl (aI a0_signsF))), (a1, .inr (a1_ci, .ref a1_marks :: .int (iI a1_size) :: a1_fx)), (a1_marks, .inl (cs.1, a1_marksN, .inl (aI a1_marksF)))] rfl ?_
      refine jn_use (P := fun z14 => q_J D κ 5 0 0 [(a0, .inr (6, [.ref a0_signs, .int (iI z14.1), .ref a0_bracketed])), (a0_bracketed, .inl (cs.2.1, 6, .inl (aI z14.2.1))), (a0_signs, .inl (cs.1, 300, .inl (aI z14.2.2.1))), (a1, .inr (a1_ci, .ref a1_marks :: .int (iI a1_size) :: a1_fx)), (a1_marks, .inl (cs.1, a1_marksN, .inl (aI a1_marksF)))] [(0, .ref a0), (1, .ref a1), (2, .int (iI z14.2.2.2)), (3, .int (iI y3))] 111 []) h (fun z14 h => ?_) (fun k3 hk3 h => ?_)
      · refine j_iinc (pc := 111) (lv' := [(3, .int (iI (y3 + 1))), (0, .ref a0), (1, .ref a1), (2, .int (iI z14.2.2.2))]) 3 ok dX6_write_111 rfl (by decide) rfl ?_
        refine j_goto (pc := 114) 9 ok dX6_write_114 (by decide) ?_
        refine j_lv [1, 2, 3, 0] rfl ?_
        exact ih _ _ _ _ _ h
      · refine j_if_eq (pc := 29) 45 ok dX6_write_29 (by decide) h (fun h => ?_) (fun h => ?_)
        · refine j_iload (pc := 45) 0 ok dX6_write_45 rfl ?_
          refine j_bipush (pc := 47) ok dX6_write_47 (by decide) ?_
          refine j_icmp_ne (pc := 49) 86 ok dX6_write_49 (by decide) h (fun h => ?_) (fun h => ?_)
          · refine j_iload (pc := 86) 0 ok dX6_write_86 rfl ?_
            obtain ⟨r4, hr4, h⟩ := bd_inv h
            refine j_callN (pc := 88) ok (k_X7_closes (x0 := r1) hr4) gN_X6_55 gNw_X6_55 gNi_X6_55 gNs_X6_55 hd_X7_closes [] (by decide) rfl rfl rfl rfl ⟨Nat.zero_le _, Nat.zero_le _⟩ (Nat.le_of_ble_eq_true rfl) dX6_write_88 rfl [(a0, .inr (6, [.ref a0_signs, .int (iI a0_length), .ref a0_bracketed])), (a0_bracketed, .inl (cs.2.1, 6, .inl (aI a0_bracketedF))), (a0_signs, .inl (cs.1, 300, .inl (aI a0_signsF))), (a1, .inr (a1_ci, .ref a1_marks :: .int (iI a1_size) :: a1_fx)), (a1_marks, .inl (cs.1, a1_marksN, .inl (aI a1_marksF)))] rfl ?_
            refine j_if_eq (pc := 91) 105 ok dX6_write_91 (by decide) h (fun h => ?_) (fun h => ?_)
            · refine j_aload_n (pc := 105) 1 ok dX6_write_105 rfl rfl ?_
              refine j_iload (pc := 106) 0 ok dX6_write_106 rfl ?_
              obtain ⟨r5, hr5, h⟩ := bd_inv h
              refine j_callV (pc := 108) ok (k_X6_put (a0 := a0) (a0_signs := a0_signs) (a0_bracketed := a0_bracketed) (a0_length := a0_length) (a0_signsF := a0_signsF) (x1 := r1) hr5) gV_X6_44 ⟨rfl, hd_X6_put⟩ [0, 2] (by decide) rfl rfl 0 rfl rfl rfl rfl ⟨Nat.zero_le _, Nat.zero_le _⟩ (Nat.le_of_ble_eq_true rfl) dX6_write_108 rfl [(a0, .inr (6, [.ref a0_signs, .int (iI r5.1), .ref a0_bracketed])), (a0_bracketed, .inl (cs.2.1, 6, .inl (aI a0_bracketedF))), (a0_signs, .inl (cs.1, 300, .inl (aI r5.2))), (a1, .inr (a1_ci, .ref a1_marks :: .int (iI a1_size) :: a1_fx)), (a1_marks, .inl (cs.1, a1_marksN, .inl (aI a1_marksF)))] rfl ?_
              refine j_lv [1, 2, 3, 4] rfl ?_
              exact hk3 (r5.1, a0_bracketedF, r5.2, y2) h
            · refine j_aload_n (pc := 94) 1 ok dX6_write_94 rfl rfl ?_
              refine j_iload_n (pc := 95) 3 ok dX6_write_95 rfl rfl ?_
              obtain ⟨r6, hr6, h⟩ := bd_inv h
              refine j_callV (pc := 96) ok (k_X6_endSlot (a0 := a0) (a0_signs := a0_signs) (a0_bracketed := a0_bracketed) (a0_length := a0_length) (a0_bracketedF := a0_bracketedF) (a0_signsF := a0_signsF) (x1 := y2) hr6) gV_X6_40 ⟨rfl, hd_X6_endSlot⟩ [0, 1, 2] (by decide) rfl rfl 0 rfl rfl rfl rfl ⟨Nat.zero_le _, Nat.zero_le _⟩ (Nat.le_of_ble_eq_true rfl) dX6_write_96 rfl [(a0, .inr (6, [.ref a0_signs, .int (iI r6.1), .ref a0_bracketed])), (a0_bracketed, .inl (cs.2.1, 6, .inl (aI a0_bracketedF))), (a0_signs, .inl (cs.1, 300, .inl (aI r6.2))), (a1, .inr (a1_ci, .ref a1_marks :: .int (iI a1_size) :: a1_fx)), (a1_marks, .inl (cs.1, a1_marksN, .inl (aI a1_marksF)))] rfl ?_
              refine j_iinc (pc := 99) (lv' := [(2, .int (iI (y2 + (-1)))), (4, .int (iI r1)), (0, .ref a0), (1, .ref a1), (3, .int (iI y3))]) 3 ok dX6_write_99 rfl (by decide) rfl ?_
              refine j_goto (pc := 102) 111 ok dX6_write_102 (by decide) ?_
              refine j_lv [2, 3, 0, 4] rfl ?_
              exact hk3 (r6.1, a0_bracketedF, r6.2, y2 + (-1)) h
          · refine j_aload_n (pc := 52) 1 ok dX6_write_52 rfl rfl ?_
            refine j_iload_n (pc := 53) 3 ok dX6_write_53 rfl rfl ?_
            obtain ⟨r7, hr7, h⟩ := bd_inv h
            refine j_callV (pc := 54) ok (k_X6_endSlot (a0 := a0) (a0_signs := a0_signs) (a0_bracketed := a0_bracketed) (a0_length := a0_length) (a0_bracketedF := a0_bracketedF) (a0_signsF := a0_signsF) (x1 := y2) hr7) gV_X6_40 ⟨rfl, hd_X6_endSlot⟩ [0, 1, 2] (by decide) rfl rfl 0 rfl rfl rfl rfl ⟨Nat.zero_le _, Nat.zero_le _⟩ (Nat.le_of_ble_eq_true rfl) dX6_write_54 rfl [(a0, .inr (6, [.ref a0_signs, .int (iI r7.1), .ref a0_bracketed])), (a0_bracketed, .inl (cs.2.1, 6, .inl (aI a0_bracketedF))), (a0_signs, .inl (cs.1, 300, .inl (aI r7.2))), (a1, .inr (a1_ci, .ref a1_marks :: .int (iI a1_size) :: a1_fx)), (a1_marks, .inl (cs.1, a1_marksN, .inl (aI a1_marksF)))] rfl ?_
            refine j_aload_n (pc := 57) 1 ok dX6_write_57 rfl rfl ?_
            refine j_bipush (pc := 58) ok dX6_write_58 (by decide) ?_
            obtain ⟨r8, hr8, h⟩ := bd_inv h
            refine j_callV (pc := 60) ok (k_X6_put (a0 := a0) (a0_signs := a0_signs) (a0_bracketed := a0_bracketed) (a0_length := r7.1) (a0_signsF := r7.2) (x1 := 47) hr8) gV_X6_44 ⟨rfl, hd_X6_put⟩ [0, 2] (by decide) rfl rfl 0 rfl rfl rfl rfl ⟨Nat.zero_le _, Nat.zero_le _⟩ (Nat.le_of_ble_eq_true rfl) dX6_write_60 rfl [(a0, .inr (6, [.ref a0_signs, .int (iI r8.1), .ref a0_bracketed])), (a0_bracketed, .inl (cs.2.1, 6, .inl (aI a0_bracketedF))), (a0_signs, .inl (cs.1, 300, .inl (aI r8.2))), (a1, .inr (a1_ci, .ref a1_marks :: .int (iI a1_size) :: a1_fx)), (a1_marks, .inl (cs.1, a1_marksN, .inl (aI a1_marksF)))] rfl ?_
            refine j_aload_n (pc := 63) 1 ok dX6_write_63 rfl rfl ?_
            refine j_iload_n (pc := 64) 3 ok dX6_write_64 rfl rfl ?_
            refine j_aload_n (pc := 65) 2 ok dX6_write_65 rfl rfl ?_
            refine j_iload_n (pc := 66) 4 ok dX6_write_66 rfl rfl ?_
            refine j_iconst (pc := 67) ok dX6_write_67 ?_
            refine j_iadd (pc := 68) ok dX6_write_68 ?_
            obtain ⟨r9, hr9, h⟩ := bd_inv h
            refine j_callS (pc := 69) ok (k_X6_standsAsOperand (a0 := a1) (a0_marks := a1_marks) (a0_ci := a1_ci) (a0_fx := a1_fx) (a0_marksN := a1_marksN) (a0_size := a1_size) (a0_marksF := a1_marksF) (x1 := y3 + 1) ha1 hr9) gS_X6_47 hd_X6_standsAsOperand [3, 4] (by decide) rfl rfl rfl rfl ⟨Nat.zero_le _, Nat.zero_le _⟩ (Nat.le_of_ble_eq_true rfl) dX6_write_69 rfl [(a0, .inr (6, [.ref a0_signs, .int (iI r8.1), .ref a0_bracketed])), (a0_bracketed, .inl (cs.2.1, 6, .inl (aI a0_bracketedF))), (a0_signs, .inl (cs.1, 300, .inl (aI r8.2))), (a1, .inr (a1_ci, .ref a1_marks :: .int (iI a1_size) :: a1_fx)), (a1_marks, .inl (cs.1, a1_marksN, .inl (aI a1_marksF)))] rfl ?_
            refine jn_use (P := fun z11 => q_J D κ 5 0 0 [(a0, .inr (6, [.ref a0_signs, .int (iI r8.1), .ref a0_bracketed])), (a0_bracketed, .inl (cs.2.1, 6, .inl (aI a0_bracketedF))), (a0_signs, .inl (cs.1, 300, .inl (aI r8.2))), (a1, .inr (a1_ci, .ref a1_marks :: .int (iI a1_size) :: a1_fx)), (a1_marks, .inl (cs.1, a1_marksN, .inl (aI a1_marksF)))] [(0, .ref a0), (1, .ref a1), (2, .int (iI y2)), (3, .int (iI y3))] 80 [.int (iI z11), .int (iI y2), .ref a0]) h (fun z11 h => ?_) (fun k10 hk10 h => ?_)
            · obtain ⟨r12, hr12, h⟩ := bd_inv h
              refine j_callV (pc := 80) ok (k_X6_beginSlot (a0 := a0) (a0_signs := a0_signs) (a0_bracketed := a0_bracketed) (a0_length := r8.1) (a0_bracketedF := a0_bracketedF) (a0_signsF := r8.2) (x1 := y2) (x2 := z11) hr12) gV_X6_51 ⟨rfl, hd_X6_beginSlot⟩ [0, 1, 2] (by decide) rfl rfl 0 rfl rfl rfl rfl ⟨Nat.zero_le _, Nat.zero_le _⟩ (Nat.le_of_ble_eq_true rfl) dX6_write_80 rfl [(a0, .inr (6, [.ref a0_signs, .int (iI r12.1), .ref a0_bracketed])), (a0_bracketed, .inl (cs.2.1, 6, .inl (aI r12.2.1))), (a0_signs, .inl (cs.1, 300, .inl (aI r12.2.2))), (a1, .inr (a1_ci, .ref a1_marks :: .int (iI a1_size) :: a1_fx)), (a1_marks, .inl (cs.1, a1_marksN, .inl (aI a1_marksF)))] rfl ?_
              refine j_goto (pc := 83) 111 ok dX6_write_83 (by decide) ?_
              exact hk3 (r12.1, r12.2.1, r12.2.2, y2) h
            · refine j_if_ne (pc := 72) 79 ok dX6_write_72 (by decide) h (fun h => ?_) (fun h => ?_)
              · refine j_iconst (pc := 79) ok dX6_write_79 ?_
                refine j_lv [1, 2, 3, 4] rfl ?_
                exact hk10 0 h
              · refine j_iconst (pc := 75) ok dX6_write_75 ?_
                refine j_goto (pc := 76) 80 ok dX6_write_76 (by decide) ?_
                refine j_lv [1, 2, 3, 4] rfl ?_
                exact hk10 1 h
        · refine j_iinc (pc := 32) (lv' := [(2, .int (iI (y2 + 1))), (4, .int (iI r1)), (0, .ref a0), (1, .ref a1), (3, .int (iI y3))]) 3 ok dX6_write_32 rfl (by decide) rfl ?_
          refine j_aload_n (pc := 35) 2 ok dX6_write_35 rfl rfl ?_
          refine j_aload_n (pc := 36) 3 ok dX6_write_36 rfl rfl ?_
          refine j_iload_n (pc := 37) 4 ok dX6_write_37 rfl rfl ?_
          refine j_iload_n (pc := 38) 0 ok dX6_write_38 rfl rfl ?_
          obtain ⟨r13, hr13, h⟩ := bd_inv h
          refine j_callV (pc := 39) ok (k_X6_beginStructure (a0 := a0) (a0_signs := a0_signs) (a0_bracketed := a0_bracketed) (a1 := a1) (a1_marks := a1_marks) (a1_ci := a1_ci) (a1_fx := a1_fx) (a1_marksN := a1_marksN) (a0_length := a0_length) (a0_bracketedF := a0_bracketedF) (a0_signsF := a0_signsF) (a1_size := a1_size) (a1_marksF := a1_marksF) (x2 := y3) (x3 := y2 + 1) ha1 hr13) gV_X6_36 ⟨rfl, hd_X6_beginStructure⟩ [0, 1, 2, 3, 4] (by decide) rfl rfl 0 rfl rfl rfl rfl ⟨Nat.zero_le _, Nat.zero_le _⟩ (Nat.le_of_ble_eq_true rfl) dX6_write_39 rfl [(a0, .inr (6, [.ref a0_signs, .int (iI r13.1), .ref a0_bracketed])), (a0_bracketed, .inl (cs.2.1, 6, .inl (aI r13.2.1))), (a0_signs, .inl (cs.1, 300, .inl (aI r13.2.2))), (a1, .inr (a1_ci, .ref a1_marks :: .int (iI a1_size) :: a1_fx)), (a1_marks, .inl (cs.1, a1_marksN, .inl (aI a1_marksF)))] rfl ?_
          refine j_goto (pc := 42) 111 ok dX6_write_42 (by decide) ?_
          refine j_lv [2, 3, 0, 4] rfl ?_
          exact hk3 (r13.1, r13.2.1, r13.2.2, y2 + 1) h
def f_X6_write (a1_marksN : Nat) (a0_length : Int) (a0_bracketedF : (Nat → Int)) (a0_signsF : (Nat → Int)) (a1_size : Int) (a1_marksF : (Nat → Int)) : Option (Int × (Nat → Int) × (Nat → Int)) := f_X6_write_9 a1_marksN a1_size a1_marksF (fun (z15 : Int × (Nat → Int) × (Nat → Int) × Int × Int) => some (z15.1, z15.2.1, z15.2.2.1)) fuel 0 a0_bracketedF a0_signsF 0 0
set_option maxRecDepth 100000 in
set_option maxHeartbeats 4000000 in
theorem k_X6_write {D : va_G} {cs : q_CS} {a0 a0_signs a0_bracketed a1 a1_marks : Nat} {a1_marksN : Nat} {a1_ci : Nat} {a1_fx : List Value} {a0_length a1_size : Int} {a0_bracketedF a0_signsF a1_marksF : (Nat → Int)} {r : (Int × (Nat → Int) × (Nat → Int))} (ha1 : q_mk a1_ci a1_fx) (h : f_X6_write a1_marksN a0_length a0_bracketedF a0_signsF a1_size a1_marksF = some r) : q_M D cs yX6_write cX6_write 5 none 4 94 [.ref a0, .ref a1] [(a0, .inr (6, [.ref a0_signs, .int (iI a0_length), .ref a0_bracketed])), (a0_bracketed, .inl (cs.2.1, 6, .inl (aI a0_bracketedF))), (a0_signs, .inl (cs.1, 300, .inl (aI a0_signsF))), (a1, .inr (a1_ci, .ref a1_marks :: .int (iI a1_size) :: a1_fx)), (a1_marks, .inl (cs.1, a1_marksN, .inl (aI a1_marksF)))] none [(a0, .inr (6, [.ref a0_signs, .int (iI r.1), .ref a0_bracketed])), (a0_bracketed, .inl (cs.2.1, 6, .inl (aI r.2.1))), (a0_signs, .inl (cs.1, 300, .inl (aI r.2.2))), (a1, .inr (a1_ci, .ref a1_marks :: .int (iI a1_size) :: a1_fx)), (a1_marks, .inl (cs.1, a1_marksN, .inl (aI a1_marksF)))] := by
  refine q_start_v [(0, .ref a0), (1, .ref a1)] RX6 rfl (by decide +kernel) rfl (Nat.le_of_ble_eq_true rfl) (fun κ ok fin => ?_)
  unfold f_X6_write at h
  refine j_aload_n (pc := 0) 0 ok dX6_write_0 rfl rfl ?_
  refine j_iconst (pc := 1) ok dX6_write_1 ?_
  refine pf_X6_19_6 (pc := 2) 0 ok rfl dX6_write_2 [(a0, .inr (6, [.ref a0_signs, .int (iI 0), .ref a0_bracketed])), (a0_bracketed, .inl (cs.2.1, 6, .inl (aI a0_bracketedF))), (a0_signs, .inl (cs.1, 300, .inl (aI a0_signsF))), (a1, .inr (a1_ci, .ref a1_marks :: .int (iI a1_size) :: a1_fx)), (a1_marks, .inl (cs.1, a1_marksN, .inl (aI a1_marksF)))] rfl ?_
  refine j_iconst (pc := 5) ok dX6_write_5 ?_
  refine j_istore_n (pc := 6) (lv' := [(2, .int (iI 0)), (0, .ref a0), (1, .ref a1)]) ok dX6_write_6 rfl (by decide) rfl ?_
  refine j_iconst (pc := 7) ok dX6_write_7 ?_
  refine j_istore_n (pc := 8) (lv' := [(3, .int (iI 0)), (2, .int (iI 0)), (0, .ref a0), (1, .ref a1)]) ok dX6_write_8 rfl (by decide) rfl ?_
  refine j_lv [2, 3, 1, 0] rfl ?_
  refine l_X6_write_9 ha1 ok fin (fun z15 h => ?_) fuel _ _ _ _ _ h
  · obtain rfl := Option.some.inj h
    exact fin _ 117 dX6_write_117
def f_X7_clearText (a0_reader_length : Int) : Option (Int × Int) := some (a0_reader_length, 0)
set_option maxRecDepth 100000 in
set_option maxHeartbeats 4000000 in
theorem k_X7_clearText {D : va_G} {cs : q_CS} {a0 a0_now a0_trial a0_firstKeep a0_secondKeep a0_history a0_clipboard a0_reader a0_writer a0_picture a0_reader_signs a0_reader_result a0_reader_stack : Nat} {a0_reader_length a0_reader_top a0_reader_state a0_reader_bracket a0_reader_chain a0_reader_factor a0_reader_isUnder a0_reader_isPlain a0_reader_script a0_reader_isBound : Int} {r : (Int × Int)} (h : f_X7_clearText a0_reader_length = some r) : q_M D cs yX7_clearText cX7_clearText 2 (some .int) 0 0 [.ref a0] [(a0, .inr (7, [.ref a0_now, .ref a0_trial, .ref a0_firstKeep, .ref a0_secondKeep, .ref a0_history, .ref a0_clipboard, .ref a0_reader, .ref a0_writer, .ref a0_picture])), (a0_reader, .inr (5, [.ref a0_reader_signs, .int (iI a0_reader_length), .ref a0_reader_result, .ref a0_reader_stack, .int (iI a0_reader_top), .int (iI a0_reader_state), .int (iI a0_reader_bracket), .int (iI a0_reader_chain), .int (iI a0_reader_factor), .int (iI a0_reader_isUnder), .int (iI a0_reader_isPlain), .int (iI a0_reader_script), .int (iI a0_reader_isBound)]))] (some (.int (iI r.1))) [(a0, .inr (7, [.ref a0_now, .ref a0_trial, .ref a0_firstKeep, .ref a0_secondKeep, .ref a0_history, .ref a0_clipboard, .ref a0_reader, .ref a0_writer, .ref a0_picture])), (a0_reader, .inr (5, [.ref a0_reader_signs, .int (iI r.2), .ref a0_reader_result, .ref a0_reader_stack, .int (iI a0_reader_top), .int (iI a0_reader_state), .int (iI a0_reader_bracket), .int (iI a0_reader_chain), .int (iI a0_reader_factor), .int (iI a0_reader_isUnder), .int (iI a0_reader_isPlain), .int (iI a0_reader_script), .int (iI a0_reader_isBound)]))] := by
  refine q_start_i [(0, .ref a0)] RX7 rfl (by decide +kernel) rfl (Nat.le_of_ble_eq_true rfl) rfl (fun κ ok fin => ?_)
  unfold f_X7_clearText at h
  refine j_aload_n (pc := 0) 0 ok dX7_clearText_0 rfl rfl ?_
  refine gf_X7_48_7 (pc := 1) 0 ok rfl dX7_clearText_1 ?_
  refine gf_X7_85_5 (pc := 4) 1 ok rfl dX7_clearText_4 ?_
  refine j_istore_n (pc := 7) (lv' := [(1, .int (iI a0_reader_length)), (0, .ref a0)]) ok dX7_clearText_7 rfl (by decide) rfl ?_
  refine j_aload_n (pc := 8) 1 ok dX7_clearText_8 rfl rfl ?_
  refine gf_X7_48_7 (pc := 9) 0 ok rfl dX7_clearText_9 ?_
  refine j_iconst (pc := 12) ok dX7_clearText_12 ?_
  refine pf_X7_85_5 (pc := 13) 1 ok rfl dX7_clearText_13 [(a0, .inr (7, [.ref a0_now, .ref a0_trial, .ref a0_firstKeep, .ref a0_secondKeep, .ref a0_history, .ref a0_clipboard, .ref a0_reader, .ref a0_writer, .ref a0_picture])), (a0_reader, .inr (5, [.ref a0_reader_signs, .int (iI 0), .ref a0_reader_result, .ref a0_reader_stack, .int (iI a0_reader_top), .int (iI a0_reader_state), .int (iI a0_reader_bracket), .int (iI a0_reader_chain), .int (iI a0_reader_factor), .int (iI a0_reader_isUnder), .int (iI a0_reader_isPlain), .int (iI a0_reader_script), .int (iI a0_reader_isBound)]))] rfl ?_
  refine j_iload_n (pc := 16) 0 ok dX7_clearText_16 rfl rfl ?_
  obtain rfl := Option.some.inj h
  exact fin _ 17 dX7_clearText_17
def f_X7_errorPosition (a0_reader_length : Int) (a0_reader_top : Int) (a0_reader_state : Int) (a0_reader_bracket : Int) (a0_reader_chain : Int) (a0_reader_factor : Int) (a0_reader_isUnder : Int) (a0_reader_isPlain : Int) (a0_reader_script : Int) (a0_reader_isBound : Int) (a0_reader_result_size : Int) (a0_reader_signsF : (Nat → Int)) (a0_reader_stackF : (Nat → Int)) (a0_reader_result_marksF : (Nat → Int)) : Option (Int × Int × Int × Int × Int × Int × Int × Int × Int × Int × Int × (Nat → Int) × (Nat → Int)) := bd (f_X5_firstError a0_reader_length a0_reader_top a0_reader_state a0_reader_bracket a0_reader_chain a0_reader_factor a0_reader_isUnder a0_reader_isPlain a0_reader_script a0_reader_isBound a0_reader_result_size a0_reader_signsF a0_reader_stackF a0_reader_result_marksF) (fun r1 => some (r1.1, r1.2.1, r1.2.2.1, r1.2.2.2.1, r1.2.2.2.2.1, r1.2.2.2.2.2.1, r1.2.2.2.2.2.2.1, r1.2.2.2.2.2.2.2.1, r1.2.2.2.2.2.2.2.2.1, r1.2.2.2.2.2.2.2.2.2.1, r1.2.2.2.2.2.2.2.2.2.2.1, r1.2.2.2.2.2.2.2.2.2.2.2.1, r1.2.2.2.2.2.2.2.2.2.2.2.2))
set_option maxRecDepth 100000 in
set_option maxHeartbeats 4000000 in
theorem k_X7_errorPosition {D : va_G} {cs : q_CS} {a0 a0_now a0_trial a0_firstKeep a0_secondKeep a0_history a0_clipboard a0_reader a0_writer a0_picture a0_reader_signs a0_reader_result a0_reader_stack a0_reader_result_marks : Nat} {a0_reader_length a0_reader_top a0_reader_state a0_reader_bracket a0_reader_chain a0_reader_factor a0_reader_isUnder a0_reader_isPlain a0_reader_script a0_reader_isBound a0_reader_result_size : Int} {a0_reader_signsF a0_reader_stackF a0_reader_result_marksF : (Nat → Int)} {r : (Int × Int × Int × Int × Int × Int × Int × Int × Int × Int × Int × (Nat → Int) × (Nat → Int))} (h : f_X7_errorPosition a0_reader_length a0_reader_top a0_reader_state a0_reader_bracket a0_reader_chain a0_reader_factor a0_reader_isUnder a0_reader_isPlain a0_reader_script a0_reader_isBound a0_reader_result_size a0_reader_signsF a0_reader_stackF a0_reader_result_marksF = some r) : q_M D cs yX7_errorPosition cX7_errorPosition 1 (some .int) 6 126 [.ref a0] [(a0, .inr (7, [.ref a0_now, .ref a0_trial, .ref a0_firstKeep, .ref a0_secondKeep, .ref a0_history, .ref a0_clipboard, .ref a0_reader, .ref a0_writer, .ref a0_picture])), (a0_reader, .inr (5, [.ref a0_reader_signs, .int (iI a0_reader_length), .ref a0_reader_result, .ref a0_reader_stack, .int (iI a0_reader_top), .int (iI a0_reader_state), .int (iI a0_reader_bracket), .int (iI a0_reader_chain), .int (iI a0_reader_factor), .int (iI a0_reader_isUnder), .int (iI a0_reader_isPlain), .int (iI a0_reader_script), .int (iI a0_reader_isBound)])), (a0_reader_result, .inr (3, [.ref a0_reader_result_marks, .int (iI a0_reader_result_size)])), (a0_reader_signs, .inl (cs.1, 120, .inl (aI a0_reader_signsF))), (a0_reader_stack, .inl (cs.1, 720, .inl (aI a0_reader_stackF))), (a0_reader_result_marks, .inl (cs.1, 360, .inl (aI a0_reader_result_marksF)))] (some (.int (iI r.1))) [(a0, .inr (7, [.ref a0_now, .ref a0_trial, .ref a0_firstKeep, .ref a0_secondKeep, .ref a0_history, .ref a0_clipboard, .ref a0_reader, .ref a0_writer, .ref a0_picture])), (a0_reader, .inr (5, [.ref a0_reader_signs, .int (iI a0_reader_length), .ref a0_reader_result, .ref a0_reader_stack, .int (iI r.2.1), .int (iI r.2.2.1), .int (iI r.2.2.2.1), .int (iI r.2.2.2.2.1), .int (iI r.2.2.2.2.2.1), .int (iI r.2.2.2.2.2.2.1), .int (iI r.2.2.2.2.2.2.2.1), .int (iI r.2.2.2.2.2.2.2.2.1), .int (iI r.2.2.2.2.2.2.2.2.2.1)])), (a0_reader_result, .inr (3, [.ref a0_reader_result_marks, .int (iI r.2.2.2.2.2.2.2.2.2.2.1)])), (a0_reader_signs, .inl (cs.1, 120, .inl (aI a0_reader_signsF))), (a0_reader_stack, .inl (cs.1, 720, .inl (aI r.2.2.2.2.2.2.2.2.2.2.2.1))), (a0_reader_result_marks, .inl (cs.1, 360, .inl (aI r.2.2.2.2.2.2.2.2.2.2.2.2)))] := by
  refine q_start_i [(0, .ref a0)] RX7 rfl (by decide +kernel) rfl (Nat.le_of_ble_eq_true rfl) rfl (fun κ ok fin => ?_)
  unfold f_X7_errorPosition at h
  refine j_aload_n (pc := 0) 0 ok dX7_errorPosition_0 rfl rfl ?_
  refine gf_X7_48_7 (pc := 1) 0 ok rfl dX7_errorPosition_1 ?_
  obtain ⟨r1, hr1, h⟩ := bd_inv h
  refine j_callV (pc := 4) ok (k_X5_firstError (a0 := a0_reader) (a0_signs := a0_reader_signs) (a0_result := a0_reader_result) (a0_stack := a0_reader_stack) (a0_result_marks := a0_reader_result_marks) (a0_length := a0_reader_length) (a0_top := a0_reader_top) (a0_state := a0_reader_state) (a0_bracket := a0_reader_bracket) (a0_chain := a0_reader_chain) (a0_factor := a0_reader_factor) (a0_isUnder := a0_reader_isUnder) (a0_isPlain := a0_reader_isPlain) (a0_script := a0_reader_script) (a0_isBound := a0_reader_isBound) (a0_result_size := a0_reader_result_size) (a0_signsF := a0_reader_signsF) (a0_stackF := a0_reader_stackF) (a0_result_marksF := a0_reader_result_marksF) hr1) gV_X7_89 ⟨rfl, hd_X5_firstError⟩ [1, 2, 3, 4, 5] (by decide) rfl rfl 1 rfl rfl rfl rfl ⟨Nat.zero_le _, Nat.zero_le _⟩ (Nat.le_of_ble_eq_true rfl) dX7_errorPosition_4 rfl [(a0, .inr (7, [.ref a0_now, .ref a0_trial, .ref a0_firstKeep, .ref a0_secondKeep, .ref a0_history, .ref a0_clipboard, .ref a0_reader, .ref a0_writer, .ref a0_picture])), (a0_reader, .inr (5, [.ref a0_reader_signs, .int (iI a0_reader_length), .ref a0_reader_result, .ref a0_reader_stack, .int (iI r1.2.1), .int (iI r1.2.2.1), .int (iI r1.2.2.2.1), .int (iI r1.2.2.2.2.1), .int (iI r1.2.2.2.2.2.1), .int (iI r1.2.2.2.2.2.2.1), .int (iI r1.2.2.2.2.2.2.2.1), .int (iI r1.2.2.2.2.2.2.2.2.1), .int (iI r1.2.2.2.2.2.2.2.2.2.1)])), (a0_reader_result, .inr (3, [.ref a0_reader_result_marks, .int (iI r1.2.2.2.2.2.2.2.2.2.2.1)])), (a0_reader_signs, .inl (cs.1, 120, .inl (aI a0_reader_signsF))), (a0_reader_stack, .inl (cs.1, 720, .inl (aI r1.2.2.2.2.2.2.2.2.2.2.2.1))), (a0_reader_result_marks, .inl (cs.1, 360, .inl (aI r1.2.2.2.2.2.2.2.2.2.2.2.2)))] rfl ?_
  obtain rfl := Option.some.inj h
  exact fin _ 7 dX7_errorPosition_7
def f_X7_linearLength (a0_now_size : Int) (a0_writer_length : Int) (a0_now_marksF : (Nat → Int)) (a0_writer_bracketedF : (Nat → Int)) (a0_writer_signsF : (Nat → Int)) : Option (Int × Int × (Nat → Int) × (Nat → Int)) := bd (f_X6_write 180 a0_writer_length a0_writer_bracketedF a0_writer_signsF a0_now_size a0_now_marksF) (fun r1 => some (r1.1, r1.1, r1.2.1, r1.2.2))
set_option maxRecDepth 100000 in
set_option maxHeartbeats 4000000 in
theorem k_X7_linearLength {D : va_G} {cs : q_CS} {a0 a0_now a0_trial a0_firstKeep a0_secondKeep a0_history a0_clipboard a0_reader a0_writer a0_picture a0_now_marks a0_writer_signs a0_writer_bracketed : Nat} {a0_now_size a0_now_caret a0_now_from a0_writer_length : Int} {a0_now_marksF a0_writer_bracketedF a0_writer_signsF : (Nat → Int)} {r : (Int × Int × (Nat → Int) × (Nat → Int))} (h : f_X7_linearLength a0_now_size a0_writer_length a0_now_marksF a0_writer_bracketedF a0_writer_signsF = some r) : q_M D cs yX7_linearLength cX7_linearLength 1 (some .int) 5 118 [.ref a0] [(a0, .inr (7, [.ref a0_now, .ref a0_trial, .ref a0_firstKeep, .ref a0_secondKeep, .ref a0_history, .ref a0_clipboard, .ref a0_reader, .ref a0_writer, .ref a0_picture])), (a0_now, .inr (0, [.ref a0_now_marks, .int (iI a0_now_size), .int (iI a0_now_caret), .int (iI a0_now_from)])), (a0_writer, .inr (6, [.ref a0_writer_signs, .int (iI a0_writer_length), .ref a0_writer_bracketed])), (a0_now_marks, .inl (cs.1, 180, .inl (aI a0_now_marksF))), (a0_writer_bracketed, .inl (cs.2.1, 6, .inl (aI a0_writer_bracketedF))), (a0_writer_signs, .inl (cs.1, 300, .inl (aI a0_writer_signsF)))] (some (.int (iI r.1))) [(a0, .inr (7, [.ref a0_now, .ref a0_trial, .ref a0_firstKeep, .ref a0_secondKeep, .ref a0_history, .ref a0_clipboard, .ref a0_reader, .ref a0_writer, .ref a0_picture])), (a0_now, .inr (0, [.ref a0_now_marks, .int (iI a0_now_size), .int (iI a0_now_caret), .int (iI a0_now_from)])), (a0_writer, .inr (6, [.ref a0_writer_signs, .int (iI r.2.1), .ref a0_writer_bracketed])), (a0_now_marks, .inl (cs.1, 180, .inl (aI a0_now_marksF))), (a0_writer_bracketed, .inl (cs.2.1, 6, .inl (aI r.2.2.1))), (a0_writer_signs, .inl (cs.1, 300, .inl (aI r.2.2.2)))] := by
  refine q_start_i [(0, .ref a0)] RX7 rfl (by decide +kernel) rfl (Nat.le_of_ble_eq_true rfl) rfl (fun κ ok fin => ?_)
  unfold f_X7_linearLength at h
  refine j_aload_n (pc := 0) 0 ok dX7_linearLength_0 rfl rfl ?_
  refine gf_X7_55_7 (pc := 1) 0 ok rfl dX7_linearLength_1 ?_
  refine j_aload_n (pc := 4) 0 ok dX7_linearLength_4 rfl rfl ?_
  refine gf_X7_12_7 (pc := 5) 0 ok rfl dX7_linearLength_5 ?_
  obtain ⟨r1, hr1, h⟩ := bd_inv h
  refine j_callV (pc := 8) ok (k_X6_write (a0 := a0_writer) (a0_signs := a0_writer_signs) (a0_bracketed := a0_writer_bracketed) (a1 := a0_now) (a1_marks := a0_now_marks) (a1_ci := 0) (a1_fx := [.int (iI a0_now_caret), .int (iI a0_now_from)]) (a1_marksN := 180) (a0_length := a0_writer_length) (a0_bracketedF := a0_writer_bracketedF) (a0_signsF := a0_writer_signsF) (a1_size := a0_now_size) (a1_marksF := a0_now_marksF) (q_mk0 _ _) hr1) gV_X7_179 ⟨rfl, hd_X6_write⟩ [2, 4, 5, 1, 3] (by decide) rfl rfl 2 rfl rfl rfl rfl ⟨Nat.zero_le _, Nat.zero_le _⟩ (Nat.le_of_ble_eq_true rfl) dX7_linearLength_8 rfl [(a0, .inr (7, [.ref a0_now, .ref a0_trial, .ref a0_firstKeep, .ref a0_secondKeep, .ref a0_history, .ref a0_clipboard, .ref a0_reader, .ref a0_writer, .ref a0_picture])), (a0_now, .inr (0, [.ref a0_now_marks, .int (iI a0_now_size), .int (iI a0_now_caret), .int (iI a0_now_from)])), (a0_writer, .inr (6, [.ref a0_writer_signs, .int (iI r1.1), .ref a0_writer_bracketed])), (a0_now_marks, .inl (cs.1, 180, .inl (aI a0_now_marksF))), (a0_writer_bracketed, .inl (cs.2.1, 6, .inl (aI r1.2.1))), (a0_writer_signs, .inl (cs.1, 300, .inl (aI r1.2.2)))] rfl ?_
  refine j_aload_n (pc := 11) 0 ok dX7_linearLength_11 rfl rfl ?_
  refine gf_X7_55_7 (pc := 12) 0 ok rfl dX7_linearLength_12 ?_
  refine gf_X7_183_6 (pc := 15) 2 ok rfl dX7_linearLength_15 ?_
  obtain rfl := Option.some.inj h
  exact fin _ 18 dX7_linearLength_18
def f_X7_moveVertically (a0_now_size : Int) (a0_now_caret : Int) (a0_now_from : Int) (a0_now_marksF : (Nat → Int)) (x1 : Int) : Option (Int × Int × Int) := bd (f_X0_verticalGoal a0_now_size a0_now_caret a0_now_marksF x1) (fun r1 => jn (fun (z4 : Int × Int) => some (r1, z4.1, z4.2)) (fun k2 => cEq r1 ((-9)) (k2 (a0_now_caret, a0_now_from)) (bd (f_X0_putCaret a0_now_caret a0_now_from r1) (fun r3 => k2 (r3.1, r3.2)))))
set_option maxRecDepth 100000 in
set_option maxHeartbeats 4000000 in
theorem k_X7_moveVertically {D : va_G} {cs : q_CS} {a0 a0_now a0_trial a0_firstKeep a0_secondKeep a0_history a0_clipboard a0_reader a0_writer a0_picture a0_now_marks : Nat} {a0_now_size a0_now_caret a0_now_from : Int} {a0_now_marksF : (Nat → Int)} {x1 : Int} {r : (Int × Int × Int)} (h : f_X7_moveVertically a0_now_size a0_now_caret a0_now_from a0_now_marksF x1 = some r) : q_M D cs yX7_moveVertically cX7_moveVertically 3 (some .int) 5 119 [.ref a0, .int (iI x1)] [(a0, .inr (7, [.ref a0_now, .ref a0_trial, .ref a0_firstKeep, .ref a0_secondKeep, .ref a0_history, .ref a0_clipboard, .ref a0_reader, .ref a0_writer, .ref a0_picture])), (a0_now, .inr (0, [.ref a0_now_marks, .int (iI a0_now_size), .int (iI a0_now_caret), .int (iI a0_now_from)])), (a0_now_marks, .inl (cs.1, 180, .inl (aI a0_now_marksF)))] (some (.int (iI r.1))) [(a0, .inr (7, [.ref a0_now, .ref a0_trial, .ref a0_firstKeep, .ref a0_secondKeep, .ref a0_history, .ref a0_clipboard, .ref a0_reader, .ref a0_writer, .ref a0_picture])), (a0_now, .inr (0, [.ref a0_now_marks, .int (iI a0_now_size), .int (iI r.2.1), .int (iI r.2.2)])), (a0_now_marks, .inl (cs.1, 180, .inl (aI a0_now_marksF)))] := by
  refine q_start_i [(0, .ref a0), (1, .int (iI x1))] RX7 rfl (by decide +kernel) rfl (Nat.le_of_ble_eq_true rfl) rfl (fun κ ok fin => ?_)
  unfold f_X7_moveVertically at h
  refine j_aload_n (pc := 0) 0 ok dX7_moveVertically_0 rfl rfl ?_
  refine gf_X7_12_7 (pc := 1) 0 ok rfl dX7_moveVertically_1 ?_
  refine j_iload_n (pc := 4) 1 ok dX7_moveVertically_4 rfl rfl ?_
  obtain ⟨r1, hr1, h⟩ := bd_inv h
  refine j_callV (pc := 5) ok (k_X0_verticalGoal (a0 := a0_now) (a0_marks := a0_now_marks) (a0_size := a0_now_size) (a0_caret := a0_now_caret) (a0_from := a0_now_from) (a0_marksF := a0_now_marksF) (x1 := x1) hr1) gV_X7_194 ⟨rfl, hd_X0_verticalGoal⟩ [1, 2] (by decide) rfl rfl 1 rfl rfl rfl rfl ⟨Nat.zero_le _, Nat.zero_le _⟩ (Nat.le_of_ble_eq_true rfl) dX7_moveVertically_5 rfl [(a0, .inr (7, [.ref a0_now, .ref a0_trial, .ref a0_firstKeep, .ref a0_secondKeep, .ref a0_history, .ref a0_clipboard, .ref a0_reader, .ref a0_writer, .ref a0_picture])), (a0_now, .inr (0, [.ref a0_now_marks, .int (iI a0_now_size), .int (iI a0_now_caret), .int (iI a0_now_from)])), (a0_now_marks, .inl (cs.1, 180, .inl (aI a0_now_marksF)))] rfl ?_
  refine j_istore_n (pc := 8) (lv' := [(2, .int (iI r1)), (0, .ref a0), (1, .int (iI x1))]) ok dX7_moveVertically_8 rfl (by decide) rfl ?_
  refine j_iload_n (pc := 9) 0 ok dX7_moveVertically_9 rfl rfl ?_
  refine j_bipush (pc := 10) ok dX7_moveVertically_10 (by decide) ?_
  refine jn_use (P := fun z4 => q_J D κ 3 0 0 [(a0, .inr (7, [.ref a0_now, .ref a0_trial, .ref a0_firstKeep, .ref a0_secondKeep, .ref a0_history, .ref a0_clipboard, .ref a0_reader, .ref a0_writer, .ref a0_picture])), (a0_now, .inr (0, [.ref a0_now_marks, .int (iI a0_now_size), .int (iI z4.1), .int (iI z4.2)])), (a0_now_marks, .inl (cs.1, 180, .inl (aI a0_now_marksF)))] [(2, .int (iI r1))] 23 []) h (fun z4 h => ?_) (fun k2 hk2 h => ?_)
  · refine j_iload_n (pc := 23) 0 ok dX7_moveVertically_23 rfl rfl ?_
    obtain rfl := Option.some.inj h
    exact fin _ 24 dX7_moveVertically_24
  · refine j_icmp_eq (pc := 12) 23 ok dX7_moveVertically_12 (by decide) h (fun h => ?_) (fun h => ?_)
    · refine j_lv [0] rfl ?_
      exact hk2 (a0_now_caret, a0_now_from) h
    · refine j_aload_n (pc := 15) 1 ok dX7_moveVertically_15 rfl rfl ?_
      refine gf_X7_12_7 (pc := 16) 0 ok rfl dX7_moveVertically_16 ?_
      refine j_iload_n (pc := 19) 0 ok dX7_moveVertically_19 rfl rfl ?_
      obtain ⟨r3, hr3, h⟩ := bd_inv h
      refine j_callV (pc := 20) ok (k_X0_putCaret (a0 := a0_now) (a0_marks := a0_now_marks) (a0_size := a0_now_size) (a0_caret := a0_now_caret) (a0_from := a0_now_from) (x1 := r1) hr3) gV_X7_114 ⟨rfl, hd_X0_putCaret⟩ [1] (by decide) rfl rfl 1 rfl rfl rfl rfl ⟨Nat.zero_le _, Nat.zero_le _⟩ (Nat.le_of_ble_eq_true rfl) dX7_moveVertically_20 rfl [(a0, .inr (7, [.ref a0_now, .ref a0_trial, .ref a0_firstKeep, .ref a0_secondKeep, .ref a0_history, .ref a0_clipboard, .ref a0_reader, .ref a0_writer, .ref a0_picture])), (a0_now, .inr (0, [.ref a0_now_marks, .int (iI a0_now_size), .int (iI r3.1), .int (iI r3.2)])), (a0_now_marks, .inl (cs.1, 180, .inl (aI a0_now_marksF)))] rfl ?_
      refine j_lv [0] rfl ?_
      exact hk2 (r3.1, r3.2) h
def f_X7_isSymbol (x0 : Int) : Option (Int) := bd (f_X7_isLetter x0) (fun r1 => jn (fun (z7 : Int) => gB z7 (some z7)) (fun k3 => jn (fun (z6 : Unit) => k3 1) (fun k2 => cEq r1 0 (bd (f_X7_isDigit x0) (fun r4 => cEq r4 0 (bd (f_X7_isOperator x0) (fun r5 => cEq r5 0 (k3 0) (k2 ()))) (k2 ()))) (k2 ()))))
set_option maxRecDepth 100000 in
set_option maxHeartbeats 4000000 in
theorem k_X7_isSymbol {D : va_G} {cs : q_CS} {x0 : Int} {r : (Int)} (h : f_X7_isSymbol x0 = some r) : q_M D cs yX7_isSymbol cX7_isSymbol 1 (some .boolean) 1 20 [.int (iI x0)] [] (some (.int (iI r))) [] := by
  refine q_start_z [(0, .int (iI x0))] RX7 rfl (by decide +kernel) rfl (Nat.le_of_ble_eq_true rfl) (fun κ ok fin => ?_)
  unfold f_X7_isSymbol at h
  refine j_iload_n (pc := 0) 0 ok dX7_isSymbol_0 rfl rfl ?_
  obtain ⟨r1, hr1, h⟩ := bd_inv h
  refine j_callS (pc := 1) ok (k_X7_isLetter (x0 := x0) hr1) gS_X7_329 hd_X7_isLetter [] (by decide) rfl rfl rfl rfl ⟨Nat.zero_le _, Nat.zero_le _⟩ (Nat.le_of_ble_eq_true rfl) dX7_isSymbol_1 rfl [] rfl ?_
  refine jn_use (P := fun z7 => q_J D κ 1 0 0 [] [] 26 [.int (iI z7)]) h (fun z7 h => ?_) (fun k3 hk3 h => ?_)
  · obtain ⟨hbo, h⟩ := gB_inv h
    obtain rfl := Option.some.inj h
    exact fin _ 26 hbo dX7_isSymbol_26
  · refine jn_use (P := fun z6 => q_J D κ 1 0 0 [] [] 21 []) h (fun z6 h => ?_) (fun k2 hk2 h => ?_)
    · refine j_iconst (pc := 21) ok dX7_isSymbol_21 ?_
      refine j_goto (pc := 22) 26 ok dX7_isSymbol_22 (by decide) ?_
      exact hk3 1 h
    · refine j_if_ne (pc := 4) 21 ok dX7_isSymbol_4 (by decide) h (fun h => ?_) (fun h => ?_)
      · refine j_lv [] rfl ?_
        exact hk2 () h
      · refine j_iload_n (pc := 7) 0 ok dX7_isSymbol_7 rfl rfl ?_
        obtain ⟨r4, hr4, h⟩ := bd_inv h
        refine j_callS (pc := 8) ok (k_X7_isDigit (x0 := x0) hr4) gS_X7_332 hd_X7_isDigit [] (by decide) rfl rfl rfl rfl ⟨Nat.zero_le _, Nat.zero_le _⟩ (Nat.le_of_ble_eq_true rfl) dX7_isSymbol_8 rfl [] rfl ?_
        refine j_if_ne (pc := 11) 21 ok dX7_isSymbol_11 (by decide) h (fun h => ?_) (fun h => ?_)
        · refine j_lv [] rfl ?_
          exact hk2 () h
        · refine j_iload_n (pc := 14) 0 ok dX7_isSymbol_14 rfl rfl ?_
          obtain ⟨r5, hr5, h⟩ := bd_inv h
          refine j_callS (pc := 15) ok (k_X7_isOperator (x0 := x0) hr5) gS_X7_335 hd_X7_isOperator [] (by decide) rfl rfl rfl rfl ⟨Nat.zero_le _, Nat.zero_le _⟩ (Nat.le_of_ble_eq_true rfl) dX7_isSymbol_15 rfl [] rfl ?_
          refine j_if_eq (pc := 18) 25 ok dX7_isSymbol_18 (by decide) h (fun h => ?_) (fun h => ?_)
          · refine j_iconst (pc := 25) ok dX7_isSymbol_25 ?_
            refine j_lv [] rfl ?_
            exact hk3 0 h
          · refine j_lv [] rfl ?_
            exact hk2 () h
def f_X7_withoutGroups_5 (y2 : Int) (e5_23 : Int × Int → Option (Int)) : Nat → Int → Int → Option (Int)
  | 0, _, _ => none
  | n + 1, y3, y5 => cLt y5 y2 (gL y3 (gL 10000 (if 10000 = 0 then none else (f_X7_withoutGroups_5 y2 e5_23 n (y3.tdiv 10000) (y5 + 1))))) (e5_23 (y3, y5))
set_option maxRecDepth 100000 in
theorem l_X7_withoutGroups_5 {D : va_G} {cs : q_CS} {κ : q_X}  {y2 : Int} {r : (Int)} {e5_23 : Int × Int → Option (Int)} (ok : q_ok D cs κ cX7_withoutGroups 6 RX7 (q_rm 0 0)) (fin : ∀ (lv : List (Nat × Value)) (pc : Nat), decode cX7_withoutGroups pc = .ok (.lreturn, 1) → q_J D κ 6 0 0 [] lv pc [.long (iL r)]) (he5_23 : ∀ x : Int × Int, e5_23 x = some r → q_J D κ 6 0 0 [] [(3, .long (iL x.1))] 23 []) : ∀ (n : Nat) (y3 : Int) (y5 : Int), f_X7_withoutGroups_5 y2 e5_23 n y3 y5 = some r → q_J D κ 6 0 0 [] [(2, .int (iI y2)), (3, .long (iL y3)), (5, .int (iI y5))] 5 [] := by
  intro n
  induction n with
  | zero =>
    intro y3 y5 h
    exact absurd h (by unfold f_X7_withoutGroups_5; exact fun z => by cases z)
  | succ n ih =>
    intro y3 y5 h
    unfold f_X7_withoutGroups_5 at h
    refine j_iload (pc := 5) 2 ok dX7_withoutGroups_5 rfl ?_
    refine j_iload_n (pc := 7) 0 ok dX7_withoutGroups_7 rfl rfl ?_
    refine j_icmp_ge (pc := 8) 23 ok dX7_withoutGroups_8 (by decide) h (fun h => ?_) (fun h => ?_)
    · refine j_lv [1] rfl ?_
      exact he5_23 (y3, y5) h
    · refine j_lload_n (pc := 11) 1 ok dX7_withoutGroups_11 rfl rfl ?_
      refine j_ldc2 (pc := 12) 10000 ok dX7_withoutGroups_12 (q_in 1079 (by decide +kernel) (by decide +kernel)) ?_
      refine j_ldiv (pc := 15) ok dX7_withoutGroups_15 h (fun _ h => ?_)
      refine j_lstore_n (pc := 16) (lv' := [(3, .long (iL (y3.tdiv 10000))), (2, .int (iI y2)), (5, .int (iI y5))]) ok dX7_withoutGroups_16 rfl (by decide) rfl ?_
      refine j_iinc (pc := 17) (lv' := [(5, .int (iI (y5 + 1))), (3, .long (iL (y3.tdiv 10000))), (2, .int (iI y2))]) 2 ok dX7_withoutGroups_17 rfl (by decide) rfl ?_
      refine j_goto (pc := 20) 5 ok dX7_withoutGroups_20 (by decide) ?_
      refine j_lv [2, 1, 0] rfl ?_
      exact ih _ _ h
def f_X7_withoutGroups (x0 : Int) (x1 : Int) : Option (Int) := f_X7_withoutGroups_5 x1 (fun (z1 : Int × Int) => some z1.1) fuel x0 0
set_option maxRecDepth 100000 in
set_option maxHeartbeats 4000000 in
theorem k_X7_withoutGroups {D : va_G} {cs : q_CS} {x0 x1 : Int} {r : (Int)} (h : f_X7_withoutGroups x0 x1 = some r) : q_M D cs yX7_withoutGroups cX7_withoutGroups 6 (some .long) 0 0 [.long (iL x0), .int (iI x1)] [] (some (.long (iL r))) [] := by
  refine q_start_l [(0, .long (iL x0)), (2, .int (iI x1))] RX7 rfl (by decide +kernel) rfl (Nat.le_of_ble_eq_true rfl) (fun κ ok fin => ?_)
  unfold f_X7_withoutGroups at h
  refine j_lload_n (pc := 0) 0 ok dX7_withoutGroups_0 rfl rfl ?_
  refine j_lstore_n (pc := 1) (lv' := [(3, .long (iL x0)), (0, .long (iL x0)), (2, .int (iI x1))]) ok dX7_withoutGroups_1 rfl (by decide) rfl ?_
  refine j_iconst (pc := 2) ok dX7_withoutGroups_2 ?_
  refine j_istore (pc := 3) (lv' := [(5, .int (iI 0)), (3, .long (iL x0)), (0, .long (iL x0)), (2, .int (iI x1))]) ok dX7_withoutGroups_3 (by decide) rfl ?_
  refine j_lv [3, 1, 0] rfl ?_
  refine l_X7_withoutGroups_5 ok fin (fun z1 h => ?_) fuel _ _ h
  · refine j_lload_n (pc := 23) 0 ok dX7_withoutGroups_23 rfl rfl ?_
    obtain rfl := Option.some.inj h
    exact fin _ 24 dX7_withoutGroups_24
def f_X7_typesInTrial (a0_trial_size : Int) (a0_trial_caret : Int) (a0_trial_from : Int) (a0_trial_marksF : (Nat → Int)) (x1 : Int) : Option (Int × Int × Int × Int × (Nat → Int)) := bd (f_X7_isSymbol x1) (fun r1 => jn (fun (z5 : Unit) => gB 0 (some (0, a0_trial_size, a0_trial_caret, a0_trial_from, a0_trial_marksF))) (fun k2 => cEq r1 0 (k2 ()) (bd (f_X0_canHoldSymbol a0_trial_size a0_trial_caret a0_trial_from a0_trial_marksF) (fun r3 => cEq r3 0 (k2 ()) (bd (f_X0_putSymbol a0_trial_size a0_trial_caret a0_trial_from a0_trial_marksF x1) (fun r4 => gB 1 (some (1, r4.1, r4.2.1, r4.2.2.1, r4.2.2.2))))))))
set_option maxRecDepth 100000 in
set_option maxHeartbeats 4000000 in
theorem k_X7_typesInTrial {D : va_G} {cs : q_CS} {a0 a0_now a0_trial a0_firstKeep a0_secondKeep a0_history a0_clipboard a0_reader a0_writer a0_picture a0_trial_marks : Nat} {a0_trial_size a0_trial_caret a0_trial_from : Int} {a0_trial_marksF : (Nat → Int)} {x1 : Int} {r : (Int × Int × Int × Int × (Nat → Int))} (h : f_X7_typesInTrial a0_trial_size a0_trial_caret a0_trial_from a0_trial_marksF x1 = some r) : q_M D cs yX7_typesInTrial cX7_typesInTrial 2 (some .boolean) 4 88 [.ref a0, .int (iI x1)] [(a0, .inr (7, [.ref a0_now, .ref a0_trial, .ref a0_firstKeep, .ref a0_secondKeep, .ref a0_history, .ref a0_clipboard, .ref a0_reader, .ref a0_writer, .ref a0_picture])), (a0_trial, .inr (0, [.ref a0_trial_marks, .int (iI a0_trial_size), .int (iI a0_trial_caret), .int (iI a0_trial_from)])), (a0_trial_marks, .inl (cs.1, 180, .inl (aI a0_trial_marksF)))] (some (.int (iI r.1))) [(a0, .inr (7, [.ref a0_now, .ref a0_trial, .ref a0_firstKeep, .ref a0_secondKeep, .ref a0_history, .ref a0_clipboard, .ref a0_reader, .ref a0_writer, .ref a0_picture])), (a0_trial, .inr (0, [.ref a0_trial_marks, .int (iI r.2.1), .int (iI r.2.2.1), .int (iI r.2.2.2.1)])), (a0_trial_marks, .inl (cs.1, 180, .inl (aI r.2.2.2.2)))] := by
  refine q_start_z [(0, .ref a0), (1, .int (iI x1))] RX7 rfl (by decide +kernel) rfl (Nat.le_of_ble_eq_true rfl) (fun κ ok fin => ?_)
  unfold f_X7_typesInTrial at h
  refine j_iload_n (pc := 0) 1 ok dX7_typesInTrial_0 rfl rfl ?_
  obtain ⟨r1, hr1, h⟩ := bd_inv h
  refine j_callS (pc := 1) ok (k_X7_isSymbol (x0 := x1) hr1) gS_X7_217 hd_X7_isSymbol [] (by decide) rfl rfl rfl rfl ⟨Nat.zero_le _, Nat.zero_le _⟩ (Nat.le_of_ble_eq_true rfl) dX7_typesInTrial_1 rfl [(a0, .inr (7, [.ref a0_now, .ref a0_trial, .ref a0_firstKeep, .ref a0_secondKeep, .ref a0_history, .ref a0_clipboard, .ref a0_reader, .ref a0_writer, .ref a0_picture])), (a0_trial, .inr (0, [.ref a0_trial_marks, .int (iI a0_trial_size), .int (iI a0_trial_caret), .int (iI a0_trial_from)])), (a0_trial_marks, .inl (cs.1, 180, .inl (aI a0_trial_marksF)))] rfl ?_
  refine jn_use (P := fun z5 => q_J D κ 2 0 0 [(a0, .inr (7, [.ref a0_now, .ref a0_trial, .ref a0_firstKeep, .ref a0_secondKeep, .ref a0_history, .ref a0_clipboard, .ref a0_reader, .ref a0_writer, .ref a0_picture])), (a0_trial, .inr (0, [.ref a0_trial_marks, .int (iI a0_trial_size), .int (iI a0_trial_caret), .int (iI a0_trial_from)])), (a0_trial_marks, .inl (cs.1, 180, .inl (aI a0_trial_marksF)))] [] 17 []) h (fun z5 h => ?_) (fun k2 hk2 h => ?_)
  · refine j_iconst (pc := 17) ok dX7_typesInTrial_17 ?_
    obtain ⟨hbo, h⟩ := gB_inv h
    obtain rfl := Option.some.inj h
    exact fin _ 18 hbo dX7_typesInTrial_18
  · refine j_if_eq (pc := 4) 17 ok dX7_typesInTrial_4 (by decide) h (fun h => ?_) (fun h => ?_)
    · refine j_lv [] rfl ?_
      exact hk2 () h
    · refine j_aload_n (pc := 7) 0 ok dX7_typesInTrial_7 rfl rfl ?_
      refine gf_X7_16_7 (pc := 8) 0 ok rfl dX7_typesInTrial_8 ?_
      obtain ⟨r3, hr3, h⟩ := bd_inv h
      refine j_callV (pc := 11) ok (k_X0_canHoldSymbol (a0 := a0_trial) (a0_marks := a0_trial_marks) (a0_size := a0_trial_size) (a0_caret := a0_trial_caret) (a0_from := a0_trial_from) (a0_marksF := a0_trial_marksF) hr3) gV_X7_222 ⟨rfl, hd_X0_canHoldSymbol⟩ [1, 2] (by decide) rfl rfl 1 rfl rfl rfl rfl ⟨Nat.zero_le _, Nat.zero_le _⟩ (Nat.le_of_ble_eq_true rfl) dX7_typesInTrial_11 rfl [(a0, .inr (7, [.ref a0_now, .ref a0_trial, .ref a0_firstKeep, .ref a0_secondKeep, .ref a0_history, .ref a0_clipboard, .ref a0_reader, .ref a0_writer, .ref a0_picture])), (a0_trial, .inr (0, [.ref a0_trial_marks, .int (iI a0_trial_size), .int (iI a0_trial_caret), .int (iI a0_trial_from)])), (a0_trial_marks, .inl (cs.1, 180, .inl (aI a0_trial_marksF)))] rfl ?_
      refine j_if_ne (pc := 14) 19 ok dX7_typesInTrial_14 (by decide) h (fun h => ?_) (fun h => ?_)
      · refine j_aload_n (pc := 19) 0 ok dX7_typesInTrial_19 rfl rfl ?_
        refine gf_X7_16_7 (pc := 20) 0 ok rfl dX7_typesInTrial_20 ?_
        refine j_iload_n (pc := 23) 1 ok dX7_typesInTrial_23 rfl rfl ?_
        obtain ⟨r4, hr4, h⟩ := bd_inv h
        refine j_callV (pc := 24) ok (k_X0_putSymbol (a0 := a0_trial) (a0_marks := a0_trial_marks) (a0_size := a0_trial_size) (a0_caret := a0_trial_caret) (a0_from := a0_trial_from) (a0_marksF := a0_trial_marksF) (x1 := x1) hr4) gV_X7_229 ⟨rfl, hd_X0_putSymbol⟩ [1, 2] (by decide) rfl rfl 1 rfl rfl rfl rfl ⟨Nat.zero_le _, Nat.zero_le _⟩ (Nat.le_of_ble_eq_true rfl) dX7_typesInTrial_24 rfl [(a0, .inr (7, [.ref a0_now, .ref a0_trial, .ref a0_firstKeep, .ref a0_secondKeep, .ref a0_history, .ref a0_clipboard, .ref a0_reader, .ref a0_writer, .ref a0_picture])), (a0_trial, .inr (0, [.ref a0_trial_marks, .int (iI r4.1), .int (iI r4.2.1), .int (iI r4.2.2.1)])), (a0_trial_marks, .inl (cs.1, 180, .inl (aI r4.2.2.2)))] rfl ?_
        refine j_iconst (pc := 27) ok dX7_typesInTrial_27 ?_
        obtain ⟨hbo, h⟩ := gB_inv h
        obtain rfl := Option.some.inj h
        exact fin _ 28 hbo dX7_typesInTrial_28
      · refine j_lv [] rfl ?_
        exact hk2 () h
def f_X7_wrapsInTrial (a0_trial_size : Int) (a0_trial_caret : Int) (a0_trial_from : Int) (a0_trial_marksF : (Nat → Int)) (x1 : Int) : Option (Int × Int × Int × Int × (Nat → Int)) := bd (f_X7_opens x1) (fun r1 => jn (fun (z5 : Unit) => gB 0 (some (0, a0_trial_size, a0_trial_caret, a0_trial_from, a0_trial_marksF))) (fun k2 => cEq r1 0 (k2 ()) (bd (f_X0_canHoldStructure a0_trial_size a0_trial_caret a0_trial_from a0_trial_marksF) (fun r3 => cEq r3 0 (k2 ()) (bd (f_X0_enclose a0_trial_size a0_trial_caret a0_trial_from a0_trial_marksF x1) (fun r4 => gB 1 (some (1, r4.1, r4.2.1, r4.2.2.1, r4.2.2.2))))))))
set_option maxRecDepth 100000 in
set_option maxHeartbeats 4000000 in
theorem k_X7_wrapsInTrial {D : va_G} {cs : q_CS} {a0 a0_now a0_trial a0_firstKeep a0_secondKeep a0_history a0_clipboard a0_reader a0_writer a0_picture a0_trial_marks : Nat} {a0_trial_size a0_trial_caret a0_trial_from : Int} {a0_trial_marksF : (Nat → Int)} {x1 : Int} {r : (Int × Int × Int × Int × (Nat → Int))} (h : f_X7_wrapsInTrial a0_trial_size a0_trial_caret a0_trial_from a0_trial_marksF x1 = some r) : q_M D cs yX7_wrapsInTrial cX7_wrapsInTrial 2 (some .boolean) 4 88 [.ref a0, .int (iI x1)] [(a0, .inr (7, [.ref a0_now, .ref a0_trial, .ref a0_firstKeep, .ref a0_secondKeep, .ref a0_history, .ref a0_clipboard, .ref a0_reader, .ref a0_writer, .ref a0_picture])), (a0_trial, .inr (0, [.ref a0_trial_marks, .int (iI a0_trial_size), .int (iI a0_trial_caret), .int (iI a0_trial_from)])), (a0_trial_marks, .inl (cs.1, 180, .inl (aI a0_trial_marksF)))] (some (.int (iI r.1))) [(a0, .inr (7, [.ref a0_now, .ref a0_trial, .ref a0_firstKeep, .ref a0_secondKeep, .ref a0_history, .ref a0_clipboard, .ref a0_reader, .ref a0_writer, .ref a0_picture])), (a0_trial, .inr (0, [.ref a0_trial_marks, .int (iI r.2.1), .int (iI r.2.2.1), .int (iI r.2.2.2.1)])), (a0_trial_marks, .inl (cs.1, 180, .inl (aI r.2.2.2.2)))] := by
  refine q_start_z [(0, .ref a0), (1, .int (iI x1))] RX7 rfl (by decide +kernel) rfl (Nat.le_of_ble_eq_true rfl) (fun κ ok fin => ?_)
  unfold f_X7_wrapsInTrial at h
  refine j_iload_n (pc := 0) 1 ok dX7_wrapsInTrial_0 rfl rfl ?_
  obtain ⟨r1, hr1, h⟩ := bd_inv h
  refine j_callS (pc := 1) ok (k_X7_opens (x0 := x1) hr1) gS_X7_232 hd_X7_opens [] (by decide) rfl rfl rfl rfl ⟨Nat.zero_le _, Nat.zero_le _⟩ (Nat.le_of_ble_eq_true rfl) dX7_wrapsInTrial_1 rfl [(a0, .inr (7, [.ref a0_now, .ref a0_trial, .ref a0_firstKeep, .ref a0_secondKeep, .ref a0_history, .ref a0_clipboard, .ref a0_reader, .ref a0_writer, .ref a0_picture])), (a0_trial, .inr (0, [.ref a0_trial_marks, .int (iI a0_trial_size), .int (iI a0_trial_caret), .int (iI a0_trial_from)])), (a0_trial_marks, .inl (cs.1, 180, .inl (aI a0_trial_marksF)))] rfl ?_
  refine jn_use (P := fun z5 => q_J D κ 2 0 0 [(a0, .inr (7, [.ref a0_now, .ref a0_trial, .ref a0_firstKeep, .ref a0_secondKeep, .ref a0_history, .ref a0_clipboard, .ref a0_reader, .ref a0_writer, .ref a0_picture])), (a0_trial, .inr (0, [.ref a0_trial_marks, .int (iI a0_trial_size), .int (iI a0_trial_caret), .int (iI a0_trial_from)])), (a0_trial_marks, .inl (cs.1, 180, .inl (aI a0_trial_marksF)))] [] 17 []) h (fun z5 h => ?_) (fun k2 hk2 h => ?_)
  · refine j_iconst (pc := 17) ok dX7_wrapsInTrial_17 ?_
    obtain ⟨hbo, h⟩ := gB_inv h
    obtain rfl := Option.some.inj h
    exact fin _ 18 hbo dX7_wrapsInTrial_18
  · refine j_if_eq (pc := 4) 17 ok dX7_wrapsInTrial_4 (by decide) h (fun h => ?_) (fun h => ?_)
    · refine j_lv [] rfl ?_
      exact hk2 () h
    · refine j_aload_n (pc := 7) 0 ok dX7_wrapsInTrial_7 rfl rfl ?_
      refine gf_X7_16_7 (pc := 8) 0 ok rfl dX7_wrapsInTrial_8 ?_
      obtain ⟨r3, hr3, h⟩ := bd_inv h
      refine j_callV (pc := 11) ok (k_X0_canHoldStructure (a0 := a0_trial) (a0_marks := a0_trial_marks) (a0_size := a0_trial_size) (a0_caret := a0_trial_caret) (a0_from := a0_trial_from) (a0_marksF := a0_trial_marksF) hr3) gV_X7_237 ⟨rfl, hd_X0_canHoldStructure⟩ [1, 2] (by decide) rfl rfl 1 rfl rfl rfl rfl ⟨Nat.zero_le _, Nat.zero_le _⟩ (Nat.le_of_ble_eq_true rfl) dX7_wrapsInTrial_11 rfl [(a0, .inr (7, [.ref a0_now, .ref a0_trial, .ref a0_firstKeep, .ref a0_secondKeep, .ref a0_history, .ref a0_clipboard, .ref a0_reader, .ref a0_writer, .ref a0_picture])), (a0_trial, .inr (0, [.ref a0_trial_marks, .int (iI a0_trial_size), .int (iI a0_trial_caret), .int (iI a0_trial_from)])), (a0_trial_marks, .inl (cs.1, 180, .inl (aI a0_trial_marksF)))] rfl ?_
      refine j_if_ne (pc := 14) 19 ok dX7_wrapsInTrial_14 (by decide) h (fun h => ?_) (fun h => ?_)
      · refine j_aload_n (pc := 19) 0 ok dX7_wrapsInTrial_19 rfl rfl ?_
        refine gf_X7_16_7 (pc := 20) 0 ok rfl dX7_wrapsInTrial_20 ?_
        refine j_iload_n (pc := 23) 1 ok dX7_wrapsInTrial_23 rfl rfl ?_
        obtain ⟨r4, hr4, h⟩ := bd_inv h
        refine j_callV (pc := 24) ok (k_X0_enclose (a0 := a0_trial) (a0_marks := a0_trial_marks) (a0_size := a0_trial_size) (a0_caret := a0_trial_caret) (a0_from := a0_trial_from) (a0_marksF := a0_trial_marksF) (x1 := x1) hr4) gV_X7_240 ⟨rfl, hd_X0_enclose⟩ [1, 2] (by decide) rfl rfl 1 rfl rfl rfl rfl ⟨Nat.zero_le _, Nat.zero_le _⟩ (Nat.le_of_ble_eq_true rfl) dX7_wrapsInTrial_24 rfl [(a0, .inr (7, [.ref a0_now, .ref a0_trial, .ref a0_firstKeep, .ref a0_secondKeep, .ref a0_history, .ref a0_clipboard, .ref a0_reader, .ref a0_writer, .ref a0_picture])), (a0_trial, .inr (0, [.ref a0_trial_marks, .int (iI r4.1), .int (iI r4.2.1), .int (iI r4.2.2.1)])), (a0_trial_marks, .inl (cs.1, 180, .inl (aI r4.2.2.2)))] rfl ?_
        refine j_iconst (pc := 27) ok dX7_wrapsInTrial_27 ?_
        obtain ⟨hbo, h⟩ := gB_inv h
        obtain rfl := Option.some.inj h
        exact fin _ 28 hbo dX7_wrapsInTrial_28
      · refine j_lv [] rfl ?_
        exact hk2 () h
def f_X7_deletesInTrial (a0_trial_size : Int) (a0_trial_caret : Int) (a0_trial_from : Int) (a0_trial_marksF : (Nat → Int)) : Option (Int × Int × Int × Int × (Nat → Int)) := bd (f_X0_canDeleteBack a0_trial_caret a0_trial_from) (fun r1 => cEq r1 0 (gB 0 (some (0, a0_trial_size, a0_trial_caret, a0_trial_from, a0_trial_marksF))) (bd (f_X0_deleteBack a0_trial_size a0_trial_caret a0_trial_from a0_trial_marksF) (fun r2 => gB 1 (some (1, r2.1, r2.2.1, r2.2.2.1, r2.2.2.2)))))
set_option maxRecDepth 100000 in
set_option maxHeartbeats 4000000 in
theorem k_X7_deletesInTrial {D : va_G} {cs : q_CS} {a0 a0_now a0_trial a0_firstKeep a0_secondKeep a0_history a0_clipboard a0_reader a0_writer a0_picture a0_trial_marks : Nat} {a0_trial_size a0_trial_caret a0_trial_from : Int} {a0_trial_marksF : (Nat → Int)} {r : (Int × Int × Int × Int × (Nat → Int))} (h : f_X7_deletesInTrial a0_trial_size a0_trial_caret a0_trial_from a0_trial_marksF = some r) : q_M D cs yX7_deletesInTrial cX7_deletesInTrial 1 (some .boolean) 4 89 [.ref a0] [(a0, .inr (7, [.ref a0_now, .ref a0_trial, .ref a0_firstKeep, .ref a0_secondKeep, .ref a0_history, .ref a0_clipboard, .ref a0_reader, .ref a0_writer, .ref a0_picture])), (a0_trial, .inr (0, [.ref a0_trial_marks, .int (iI a0_trial_size), .int (iI a0_trial_caret), .int (iI a0_trial_from)])), (a0_trial_marks, .inl (cs.1, 180, .inl (aI a0_trial_marksF)))] (some (.int (iI r.1))) [(a0, .inr (7, [.ref a0_now, .ref a0_trial, .ref a0_firstKeep, .ref a0_secondKeep, .ref a0_history, .ref a0_clipboard, .ref a0_reader, .ref a0_writer, .ref a0_picture])), (a0_trial, .inr (0, [.ref a0_trial_marks, .int (iI r.2.1), .int (iI r.2.2.1), .int (iI r.2.2.2.1)])), (a0_trial_marks, .inl (cs.1, 180, .inl (aI r.2.2.2.2)))] := by
  refine q_start_z [(0, .ref a0)] RX7 rfl (by decide +kernel) rfl (Nat.le_of_ble_eq_true rfl) (fun κ ok fin => ?_)
  unfold f_X7_deletesInTrial at h
  refine j_aload_n (pc := 0) 0 ok dX7_deletesInTrial_0 rfl rfl ?_
  refine gf_X7_16_7 (pc := 1) 0 ok rfl dX7_deletesInTrial_1 ?_
  obtain ⟨r1, hr1, h⟩ := bd_inv h
  refine j_callV (pc := 4) ok (k_X0_canDeleteBack (a0 := a0_trial) (a0_marks := a0_trial_marks) (a0_size := a0_trial_size) (a0_caret := a0_trial_caret) (a0_from := a0_trial_from) hr1) gV_X7_243 ⟨rfl, hd_X0_canDeleteBack⟩ [1] (by decide) rfl rfl 1 rfl rfl rfl rfl ⟨Nat.zero_le _, Nat.zero_le _⟩ (Nat.le_of_ble_eq_true rfl) dX7_deletesInTrial_4 rfl [(a0, .inr (7, [.ref a0_now, .ref a0_trial, .ref a0_firstKeep, .ref a0_secondKeep, .ref a0_history, .ref a0_clipboard, .ref a0_reader, .ref a0_writer, .ref a0_picture])), (a0_trial, .inr (0, [.ref a0_trial_marks, .int (iI a0_trial_size), .int (iI a0_trial_caret), .int (iI a0_trial_from)])), (a0_trial_marks, .inl (cs.1, 180, .inl (aI a0_trial_marksF)))] rfl ?_
  refine j_if_ne (pc := 7) 12 ok dX7_deletesInTrial_7 (by decide) h (fun h => ?_) (fun h => ?_)
  · refine j_aload_n (pc := 12) 0 ok dX7_deletesInTrial_12 rfl rfl ?_
    refine gf_X7_16_7 (pc := 13) 0 ok rfl dX7_deletesInTrial_13 ?_
    obtain ⟨r2, hr2, h⟩ := bd_inv h
    refine j_callV (pc := 16) ok (k_X0_deleteBack (a0 := a0_trial) (a0_marks := a0_trial_marks) (a0_size := a0_trial_size) (a0_caret := a0_trial_caret) (a0_from := a0_trial_from) (a0_marksF := a0_trial_marksF) hr2) gV_X7_248 ⟨rfl, hd_X0_deleteBack⟩ [1, 2] (by decide) rfl rfl 1 rfl rfl rfl rfl ⟨Nat.zero_le _, Nat.zero_le _⟩ (Nat.le_of_ble_eq_true rfl) dX7_deletesInTrial_16 rfl [(a0, .inr (7, [.ref a0_now, .ref a0_trial, .ref a0_firstKeep, .ref a0_secondKeep, .ref a0_history, .ref a0_clipboard, .ref a0_reader, .ref a0_writer, .ref a0_picture])), (a0_trial, .inr (0, [.ref a0_trial_marks, .int (iI r2.1), .int (iI r2.2.1), .int (iI r2.2.2.1)])), (a0_trial_marks, .inl (cs.1, 180, .inl (aI r2.2.2.2)))] rfl ?_
    refine j_iconst (pc := 19) ok dX7_deletesInTrial_19 ?_
    obtain ⟨hbo, h⟩ := gB_inv h
    obtain rfl := Option.some.inj h
    exact fin _ 20 hbo dX7_deletesInTrial_20
  · refine j_iconst (pc := 10) ok dX7_deletesInTrial_10 ?_
    obtain ⟨hbo, h⟩ := gB_inv h
    obtain rfl := Option.some.inj h
    exact fin _ 11 hbo dX7_deletesInTrial_11
def f_X7_obeys (a0_trial_size : Int) (a0_trial_caret : Int) (a0_trial_from : Int) (a0_picture_abovesF : (Nat → Int)) (a0_picture_belowsF : (Nat → Int)) (a0_picture_widthsF : (Nat → Int)) (a0_trial_marksF : (Nat → Int)) (x1 : Int) : Option (Int × Int × Int × Int × (Nat → Int) × (Nat → Int) × (Nat → Int) × (Nat → Int)) := gR x1 (gR x1 (cEq (x1.tdiv 1000) 1 (bd (f_X7_typesInTrial a0_trial_size a0_trial_caret a0_trial_from a0_trial_marksF (x1.tmod 1000)) (fun r23 => gB r23.1 (some (r23.1, r23.2.1, r23.2.2.1, r23.2.2.2.1, a0_picture_abovesF, a0_picture_belowsF, a0_picture_widthsF, r23.2.2.2.2)))) (cLt (x1.tmod 1000) 100 (cEq (x1.tdiv 1000) 2 (bd (f_X7_wrapsInTrial a0_trial_size a0_trial_caret a0_trial_from a0_trial_marksF (x1.tmod 1000)) (fun r1 => gB r1.1 (some (r1.1, r1.2.1, r1.2.2.1, r1.2.2.2.1, a0_picture_abovesF, a0_picture_belowsF, a0_picture_widthsF, r1.2.2.2.2)))) (cEq (x1.tdiv 1000) 3 (bd (f_X0_shiftCaret a0_trial_size a0_trial_caret a0_trial_from (x1.tmod 1000)) (fun r2 => gB 1 (some (1, a0_trial_size, r2.1, r2.2, a0_picture_abovesF, a0_picture_belowsF, a0_picture_widthsF, a0_trial_marksF)))) (cEq (x1.tdiv 1000) 4 (bd (f_X0_shiftCaret a0_trial_size a0_trial_caret a0_trial_from (-(x1.tmod 1000))) (fun r3 => gB 1 (some (1, a0_trial_size, r3.1, r3.2, a0_picture_abovesF, a0_picture_belowsF, a0_picture_widthsF, a0_trial_marksF)))) (cEq (x1.tdiv 1000) 5 (jn (fun (z8 : Int × Int × Int × (Nat → Int) × Int) => gB z8.2.2.2.2 (some (z8.2.2.2.2, z8.1, z8.2.1, z8.2.2.1, a0_picture_abovesF, a0_picture_belowsF, a0_picture_widthsF, z8.2.2.2.1))) (fun k5 => jn (fun (z7 : Int × Int × Int × (Nat → Int)) => k5 (z7.1, z7.2.1, z7.2.2.1, z7.2.2.2, 0)) (fun k4 => cEq (x1.tmod 1000) 0 (bd (f_X7_deletesInTrial a0_trial_size a0_trial_caret a0_trial_from a0_trial_marksF) (fun r6 => cEq r6.1 0 (k4 (r6.2.1, r6.2.2.1, r6.2.2.2.1, r6.2.2.2.2)) (k5 (r6.2.1, r6.2.2.1, r6.2.2.2.1, r6.2.2.2.2, 1)))) (k4 (a0_trial_size, a0_trial_caret, a0_trial_from, a0_trial_marksF))))) (cEq (x1.tdiv 1000) 6 (jn (fun (z13 : Int × Int × Int) => gB z13.2.2 (some (z13.2.2, a0_trial_size, z13.1, z13.2.1, a0_picture_abovesF, a0_picture_belowsF, a0_picture_widthsF, a0_trial_marksF))) (fun k10 => jn (fun (z12 : Int × Int) => k10 (z12.1, z12.2, 0)) (fun k9 => cEq (x1.tmod 1000) 0 (bd (f_X0_growSelection a0_trial_size a0_trial_caret a0_trial_from a0_trial_marksF) (fun r11 => cEq r11.1 0 (k9 (r11.2.1, r11.2.2)) (k10 (r11.2.1, r11.2.2, 1)))) (k9 (a0_trial_caret, a0_trial_from))))) (cEq (x1.tdiv 1000) 7 (bd (f_X3_allItems 180 a0_trial_size a0_trial_marksF) (fun r14 => jn (fun (z16 : Int) => gB z16 (some (z16, a0_trial_size, a0_trial_caret, a0_trial_from, a0_picture_abovesF, a0_picture_belowsF, a0_picture_widthsF, a0_trial_marksF))) (fun k15 => cEq r14 (x1.tmod 1000) (k15 1) (k15 0)))) (cEq (x1.tdiv 1000) 8 (jn (fun (z18 : Int) => gB z18 (some (z18, a0_trial_size, a0_trial_caret, a0_trial_from, a0_picture_abovesF, a0_picture_belowsF, a0_picture_widthsF, a0_trial_marksF))) (fun k17 => cEq a0_trial_caret (x1.tmod 1000) (k17 1) (k17 0))) (cEq (x1.tdiv 1000) 9 (bd (f_X4_measure 180 a0_picture_abovesF a0_picture_belowsF a0_picture_widthsF a0_trial_size a0_trial_marksF) (fun r19 => bd (f_X4_width r19.2.2 0) (fun r20 => jn (fun (z22 : Int) => gB z22 (some (z22, a0_trial_size, a0_trial_caret, a0_trial_from, r19.1, r19.2.1, r19.2.2, a0_trial_marksF))) (fun k21 => cEq r20 (x1.tmod 1000) (k21 1) (k21 0))))) (gB 0 (some (0, a0_trial_size, a0_trial_caret, a0_trial_from, a0_picture_abovesF, a0_picture_belowsF, a0_picture_widthsF, a0_trial_marksF))))))))))) (gB 0 (some (0, a0_trial_size, a0_trial_caret, a0_trial_from, a0_picture_abovesF, a0_picture_belowsF, a0_picture_widthsF, a0_trial_marksF))))))
set_option maxRecDepth 100000 in
set_option maxHeartbeats 4000000 in
theorem k_X7_obeys {D : va_G} {cs : q_CS} {a0 a0_now a0_trial a0_firstKeep a0_secondKeep a0_history a0_clipboard a0_reader a0_writer a0_picture a0_picture_widths a0_picture_aboves a0_picture_belows a0_trial_marks : Nat} {a0_picture_row a0_picture_column a0_picture_height a0_trial_size a0_trial_caret a0_trial_from : Int} {a0_picture_abovesF a0_picture_belowsF a0_picture_widthsF a0_trial_marksF : (Nat → Int)} {x1 : Int} {r : (Int × Int × Int × Int × (Nat → Int) × (Nat → Int) × (Nat → Int) × (Nat → Int))} (h : f_X7_obeys a0_trial_size a0_trial_caret a0_trial_from a0_picture_abovesF a0_picture_belowsF a0_picture_widthsF a0_trial_marksF x1 = some r) : q_M D cs yX7_obeys cX7_obeys 4 (some .boolean) 5 119 [.ref a0, .int (iI x1)] [(a0, .inr (7, [.ref a0_now, .ref a0_trial, .ref a0_firstKeep, .ref a0_secondKeep, .ref a0_history, .ref a0_clipboard, .ref a0_reader, .ref a0_writer, .ref a0_picture])), (a0_picture, .inr (4, [.ref a0_picture_widths, .ref a0_picture_aboves, .ref a0_picture_belows, .int (iI a0_picture_row), .int (iI a0_picture_column), .int (iI a0_picture_height)])), (a0_trial, .inr (0, [.ref a0_trial_marks, .int (iI a0_trial_size), .int (iI a0_trial_caret), .int (iI a0_trial_from)])), (a0_picture_aboves, .inl (cs.1, 181, .inl (aI a0_picture_abovesF))), (a0_picture_belows, .inl (cs.1, 181, .inl (aI a0_picture_belowsF))), (a0_picture_widths, .inl (cs.1, 181, .inl (aI a0_picture_widthsF))), (a0_trial_marks, .inl (cs.1, 180, .inl (aI a0_trial_marksF)))] (some (.int (iI r.1))) [(a0, .inr (7, [.ref a0_now, .ref a0_trial, .ref a0_firstKeep, .ref a0_secondKeep, .ref a0_history, .ref a0_clipboard, .ref a0_reader, .ref a0_writer, .ref a0_picture])), (a0_picture, .inr (4, [.ref a0_picture_widths, .ref a0_picture_aboves, .ref a0_picture_belows, .int (iI a0_picture_row), .int (iI a0_picture_column), .int (iI a0_picture_height)])), (a0_trial, .inr (0, [.ref a0_trial_marks, .int (iI r.2.1), .int (iI r.2.2.1), .int (iI r.2.2.2.1)])), (a0_picture_aboves, .inl (cs.1, 181, .inl (aI r.2.2.2.2.1))), (a0_picture_belows, .inl (cs.1, 181, .inl (aI r.2.2.2.2.2.1))), (a0_picture_widths, .inl (cs.1, 181, .inl (aI r.2.2.2.2.2.2.1))), (a0_trial_marks, .inl (cs.1, 180, .inl (aI r.2.2.2.2.2.2.2)))] := by
  refine q_start_z [(0, .ref a0), (1, .int (iI x1))] RX7 rfl (by decide +kernel) rfl (Nat.le_of_ble_eq_true rfl) (fun κ ok fin => ?_)
  unfold f_X7_obeys at h
  refine j_iload_n (pc := 0) 1 ok dX7_obeys_0 rfl rfl ?_
  refine j_sipush (pc := 1) ok dX7_obeys_1 (by decide) ?_
  refine j_idiv (pc := 4) ok dX7_obeys_4 (by decide) (by decide) h (fun h => ?_)
  refine j_istore_n (pc := 5) (lv' := [(2, .int (iI (x1.tdiv 1000))), (0, .ref a0), (1, .int (iI x1))]) ok dX7_obeys_5 rfl (by decide) rfl ?_
  refine j_iload_n (pc := 6) 2 ok dX7_obeys_6 rfl rfl ?_
  refine j_sipush (pc := 7) ok dX7_obeys_7 (by decide) ?_
  refine j_irem (pc := 10) ok dX7_obeys_10 (by decide) (by decide) h (fun h => ?_)
  refine j_istore_n (pc := 11) (lv' := [(3, .int (iI (x1.tmod 1000))), (2, .int (iI (x1.tdiv 1000))), (0, .ref a0), (1, .int (iI x1))]) ok dX7_obeys_11 rfl (by decide) rfl ?_
  refine j_iload_n (pc := 12) 1 ok dX7_obeys_12 rfl rfl ?_
  refine j_iconst (pc := 13) ok dX7_obeys_13 ?_
  refine j_icmp_ne (pc := 14) 23 ok dX7_obeys_14 (by decide) h (fun h => ?_) (fun h => ?_)
  · refine j_iload_n (pc := 23) 0 ok dX7_obeys_23 rfl rfl ?_
    refine j_bipush (pc := 24) ok dX7_obeys_24 (by decide) ?_
    refine j_icmp_lt (pc := 26) 31 ok dX7_obeys_26 (by decide) h (fun h => ?_) (fun h => ?_)
    · refine j_iload_n (pc := 31) 1 ok dX7_obeys_31 rfl rfl ?_
      obtain ⟨hR, h1, h2⟩ := cEq_inv h
      by_cases e32_2 : x1.tdiv 1000 = 2
      · have h := h1 e32_2
        refine j_tabIn (pc := 32) 2 80 ok dX7_obeys_32 hR.1 e32_2 (by decide) rfl (by decide) ?_
        refine j_aload_n (pc := 80) 2 ok dX7_obeys_80 rfl rfl ?_
        refine j_iload_n (pc := 81) 0 ok dX7_obeys_81 rfl rfl ?_
        obtain ⟨r1, hr1, h⟩ := bd_inv h
        refine j_callV (pc := 82) ok (k_X7_wrapsInTrial (a0 := a0) (a0_now := a0_now) (a0_trial := a0_trial) (a0_firstKeep := a0_firstKeep) (a0_secondKeep := a0_secondKeep) (a0_history := a0_history) (a0_clipboard := a0_clipboard) (a0_reader := a0_reader) (a0_writer := a0_writer) (a0_picture := a0_picture) (a0_trial_marks := a0_trial_marks) (a0_trial_size := a0_trial_size) (a0_trial_caret := a0_trial_caret) (a0_trial_from := a0_trial_from) (a0_trial_marksF := a0_trial_marksF) (x1 := x1.tmod 1000) hr1) gV_X7_307 ⟨rfl, hd_X7_wrapsInTrial⟩ [0, 2, 6] (by decide) rfl rfl 0 rfl rfl rfl rfl ⟨Nat.zero_le _, Nat.zero_le _⟩ (Nat.le_of_ble_eq_true rfl) dX7_obeys_82 rfl [(a0, .inr (7, [.ref a0_now, .ref a0_trial, .ref a0_firstKeep, .ref a0_secondKeep, .ref a0_history, .ref a0_clipboard, .ref a0_reader, .ref a0_writer, .ref a0_picture])), (a0_picture, .inr (4, [.ref a0_picture_widths, .ref a0_picture_aboves, .ref a0_picture_belows, .int (iI a0_picture_row), .int (iI a0_picture_column), .int (iI a0_picture_height)])), (a0_trial, .inr (0, [.ref a0_trial_marks, .int (iI r1.2.1), .int (iI r1.2.2.1), .int (iI r1.2.2.2.1)])), (a0_picture_aboves, .inl (cs.1, 181, .inl (aI a0_picture_abovesF))), (a0_picture_belows, .inl (cs.1, 181, .inl (aI a0_picture_belowsF))), (a0_picture_widths, .inl (cs.1, 181, .inl (aI a0_picture_widthsF))), (a0_trial_marks, .inl (cs.1, 180, .inl (aI r1.2.2.2.2)))] rfl ?_
        obtain ⟨hbo, h⟩ := gB_inv h
        obtain rfl := Option.some.inj h
        exact fin _ 85 hbo dX7_obeys_85
      · have h := h2 e32_2
        obtain ⟨hR, h1, h2⟩ := cEq_inv h
        by_cases e32_3 : x1.tdiv 1000 = 3
        · have h := h1 e32_3
          refine j_tabIn (pc := 32) 3 86 ok dX7_obeys_32 hR.1 e32_3 (by decide) rfl (by decide) ?_
          refine j_aload_n (pc := 86) 2 ok dX7_obeys_86 rfl rfl ?_
          refine gf_X7_16_7 (pc := 87) 0 ok rfl dX7_obeys_87 ?_
          refine j_iload_n (pc := 90) 0 ok dX7_obeys_90 rfl rfl ?_
          obtain ⟨r2, hr2, h⟩ := bd_inv h
          refine j_callV (pc := 91) ok (k_X0_shiftCaret (a0 := a0_trial) (a0_marks := a0_trial_marks) (a0_size := a0_trial_size) (a0_caret := a0_trial_caret) (a0_from := a0_trial_from) (x1 := x1.tmod 1000) hr2) gV_X7_191 ⟨rfl, hd_X0_shiftCaret⟩ [2] (by decide) rfl rfl 2 rfl rfl rfl rfl ⟨Nat.zero_le _, Nat.zero_le _⟩ (Nat.le_of_ble_eq_true rfl) dX7_obeys_91 rfl [(a0, .inr (7, [.ref a0_now, .ref a0_trial, .ref a0_firstKeep, .ref a0_secondKeep, .ref a0_history, .ref a0_clipboard, .ref a0_reader, .ref a0_writer, .ref a0_picture])), (a0_picture, .inr (4, [.ref a0_picture_widths, .ref a0_picture_aboves, .ref a0_picture_belows, .int (iI a0_picture_row), .int (iI a0_picture_column), .int (iI a0_picture_height)])), (a0_trial, .inr (0, [.ref a0_trial_marks, .int (iI a0_trial_size), .int (iI r2.1), .int (iI r2.2)])), (a0_picture_aboves, .inl (cs.1, 181, .inl (aI a0_picture_abovesF))), (a0_picture_belows, .inl (cs.1, 181, .inl (aI a0_picture_belowsF))), (a0_picture_widths, .inl (cs.1, 181, .inl (aI a0_picture_widthsF))), (a0_trial_marks, .inl (cs.1, 180, .inl (aI a0_trial_marksF)))] rfl ?_
          refine j_iconst (pc := 94) ok dX7_obeys_94 ?_
          obtain ⟨hbo, h⟩ := gB_inv h
          obtain rfl := Option.some.inj h
          exact fin _ 95 hbo dX7_obeys_95
        · have h := h2 e32_3
          obtain ⟨hR, h1, h2⟩ := cEq_inv h
          by_cases e32_4 : x1.tdiv 1000 = 4
          · have h := h1 e32_4
            refine j_tabIn (pc := 32) 4 96 ok dX7_obeys_32 hR.1 e32_4 (by decide) rfl (by decide) ?_
            refine j_aload_n (pc := 96) 2 ok dX7_obeys_96 rfl rfl ?_
            refine gf_X7_16_7 (pc := 97) 0 ok rfl dX7_obeys_97 ?_
            refine j_iload_n (pc := 100) 0 ok dX7_obeys_100 rfl rfl ?_
            refine j_ineg (pc := 101) ok dX7_obeys_101 ?_
            obtain ⟨r3, hr3, h⟩ := bd_inv h
            refine j_callV (pc := 102) ok (k_X0_shiftCaret (a0 := a0_trial) (a0_marks := a0_trial_marks) (a0_size := a0_trial_size) (a0_caret := a0_trial_caret) (a0_from := a0_trial_from) (x1 := -(x1.tmod 1000)) hr3) gV_X7_191 ⟨rfl, hd_X0_shiftCaret⟩ [2] (by decide) rfl rfl 2 rfl rfl rfl rfl ⟨Nat.zero_le _, Nat.zero_le _⟩ (Nat.le_of_ble_eq_true rfl) dX7_obeys_102 rfl [(a0, .inr (7, [.ref a0_now, .ref a0_trial, .ref a0_firstKeep, .ref a0_secondKeep, .ref a0_history, .ref a0_clipboard, .ref a0_reader, .ref a0_writer, .ref a0_picture])), (a0_picture, .inr (4, [.ref a0_picture_widths, .ref a0_picture_aboves, .ref a0_picture_belows, .int (iI a0_picture_row), .int (iI a0_picture_column), .int (iI a0_picture_height)])), (a0_trial, .inr (0, [.ref a0_trial_marks, .int (iI a0_trial_size), .int (iI r3.1), .int (iI r3.2)])), (a0_picture_aboves, .inl (cs.1, 181, .inl (aI a0_picture_abovesF))), (a0_picture_belows, .inl (cs.1, 181, .inl (aI a0_picture_belowsF))), (a0_picture_widths, .inl (cs.1, 181, .inl (aI a0_picture_widthsF))), (a0_trial_marks, .inl (cs.1, 180, .inl (aI a0_trial_marksF)))] rfl ?_
            refine j_iconst (pc := 105) ok dX7_obeys_105 ?_
            obtain ⟨hbo, h⟩ := gB_inv h
            obtain rfl := Option.some.inj h
            exact fin _ 106 hbo dX7_obeys_106
          · have h := h2 e32_4
            obtain ⟨hR, h1, h2⟩ := cEq_inv h
            by_cases e32_5 : x1.tdiv 1000 = 5
            · have h := h1 e32_5
              refine j_tabIn (pc := 32) 5 107 ok dX7_obeys_32 hR.1 e32_5 (by decide) rfl (by decide) ?_
              refine j_iload_n (pc := 107) 0 ok dX7_obeys_107 rfl rfl ?_
              refine jn_use (P := fun z8 => q_J D κ 4 0 0 [(a0, .inr (7, [.ref a0_now, .ref a0_trial, .ref a0_firstKeep, .ref a0_secondKeep, .ref a0_history, .ref a0_clipboard, .ref a0_reader, .ref a0_writer, .ref a0_picture])), (a0_picture, .inr (4, [.ref a0_picture_widths, .ref a0_picture_aboves, .ref a0_picture_belows, .int (iI a0_picture_row), .int (iI a0_picture_column), .int (iI a0_picture_height)])), (a0_trial, .inr (0, [.ref a0_trial_marks, .int (iI z8.1), .int (iI z8.2.1), .int (iI z8.2.2.1)])), (a0_picture_aboves, .inl (cs.1, 181, .inl (aI a0_picture_abovesF))), (a0_picture_belows, .inl (cs.1, 181, .inl (aI a0_picture_belowsF))), (a0_picture_widths, .inl (cs.1, 181, .inl (aI a0_picture_widthsF))), (a0_trial_marks, .inl (cs.1, 180, .inl (aI z8.2.2.2.1)))] [] 123 [.int (iI z8.2.2.2.2)]) h (fun z8 h => ?_) (fun k5 hk5 h => ?_)
              · obtain ⟨hbo, h⟩ := gB_inv h
                obtain rfl := Option.some.inj h
                exact fin _ 123 hbo dX7_obeys_123
              · refine jn_use (P := fun z7 => q_J D κ 4 0 0 [(a0, .inr (7, [.ref a0_now, .ref a0_trial, .ref a0_firstKeep, .ref a0_secondKeep, .ref a0_history, .ref a0_clipboard, .ref a0_reader, .ref a0_writer, .ref a0_picture])), (a0_picture, .inr (4, [.ref a0_picture_widths, .ref a0_picture_aboves, .ref a0_picture_belows, .int (iI a0_picture_row), .int (iI a0_picture_column), .int (iI a0_picture_height)])), (a0_trial, .inr (0, [.ref a0_trial_marks, .int (iI z7.1), .int (iI z7.2.1), .int (iI z7.2.2.1)])), (a0_picture_aboves, .inl (cs.1, 181, .inl (aI a0_picture_abovesF))), (a0_picture_belows, .inl (cs.1, 181, .inl (aI a0_picture_belowsF))), (a0_picture_widths, .inl (cs.1, 181, .inl (aI a0_picture_widthsF))), (a0_trial_marks, .inl (cs.1, 180, .inl (aI z7.2.2.2)))] [] 122 []) h (fun z7 h => ?_) (fun k4 hk4 h => ?_)
                · refine j_iconst (pc := 122) ok dX7_obeys_122 ?_
                  exact hk5 (z7.1, z7.2.1, z7.2.2.1, z7.2.2.2, 0) h
                · refine j_if_ne (pc := 108) 122 ok dX7_obeys_108 (by decide) h (fun h => ?_) (fun h => ?_)
                  · refine j_lv [] rfl ?_
                    exact hk4 (a0_trial_size, a0_trial_caret, a0_trial_from, a0_trial_marksF) h
                  · refine j_aload_n (pc := 111) 2 ok dX7_obeys_111 rfl rfl ?_
                    obtain ⟨r6, hr6, h⟩ := bd_inv h
                    refine j_callV (pc := 112) ok (k_X7_deletesInTrial (a0 := a0) (a0_now := a0_now) (a0_trial := a0_trial) (a0_firstKeep := a0_firstKeep) (a0_secondKeep := a0_secondKeep) (a0_history := a0_history) (a0_clipboard := a0_clipboard) (a0_reader := a0_reader) (a0_writer := a0_writer) (a0_picture := a0_picture) (a0_trial_marks := a0_trial_marks) (a0_trial_size := a0_trial_size) (a0_trial_caret := a0_trial_caret) (a0_trial_from := a0_trial_from) (a0_trial_marksF := a0_trial_marksF) hr6) gV_X7_310 ⟨rfl, hd_X7_deletesInTrial⟩ [0, 2, 6] (by decide) rfl rfl 0 rfl rfl rfl rfl ⟨Nat.zero_le _, Nat.zero_le _⟩ (Nat.le_of_ble_eq_true rfl) dX7_obeys_112 rfl [(a0, .inr (7, [.ref a0_now, .ref a0_trial, .ref a0_firstKeep, .ref a0_secondKeep, .ref a0_history, .ref a0_clipboard, .ref a0_reader, .ref a0_writer, .ref a0_picture])), (a0_picture, .inr (4, [.ref a0_picture_widths, .ref a0_picture_aboves, .ref a0_picture_belows, .int (iI a0_picture_row), .int (iI a0_picture_column), .int (iI a0_picture_height)])), (a0_trial, .inr (0, [.ref a0_trial_marks, .int (iI r6.2.1), .int (iI r6.2.2.1), .int (iI r6.2.2.2.1)])), (a0_picture_aboves, .inl (cs.1, 181, .inl (aI a0_picture_abovesF))), (a0_picture_belows, .inl (cs.1, 181, .inl (aI a0_picture_belowsF))), (a0_picture_widths, .inl (cs.1, 181, .inl (aI a0_picture_widthsF))), (a0_trial_marks, .inl (cs.1, 180, .inl (aI r6.2.2.2.2)))] rfl ?_
                    refine j_if_eq (pc := 115) 122 ok dX7_obeys_115 (by decide) h (fun h => ?_) (fun h => ?_)
                    · refine j_lv [] rfl ?_
                      exact hk4 (r6.2.1, r6.2.2.1, r6.2.2.2.1, r6.2.2.2.2) h
                    · refine j_iconst (pc := 118) ok dX7_obeys_118 ?_
                      refine j_goto (pc := 119) 123 ok dX7_obeys_119 (by decide) ?_
                      refine j_lv [] rfl ?_
                      exact hk5 (r6.2.1, r6.2.2.1, r6.2.2.2.1, r6.2.2.2.2, 1) h
            · have h := h2 e32_5
              obtain ⟨hR, h1, h2⟩ := cEq_inv h
              by_cases e32_6 : x1.tdiv 1000 = 6
              · have h := h1 e32_6
                refine j_tabIn (pc := 32) 6 124 ok dX7_obeys_32 hR.1 e32_6 (by decide) rfl (by decide) ?_
                refine j_iload_n (pc := 124) 0 ok dX7_obeys_124 rfl rfl ?_
                refine jn_use (P := fun z13 => q_J D κ 4 0 0 [(a0, .inr (7, [.ref a0_now, .ref a0_trial, .ref a0_firstKeep, .ref a0_secondKeep, .ref a0_history, .ref a0_clipboard, .ref a0_reader, .ref a0_writer, .ref a0_picture])), (a0_picture, .inr (4, [.ref a0_picture_widths, .ref a0_picture_aboves, .ref a0_picture_belows, .int (iI a0_picture_row), .int (iI a0_picture_column), .int (iI a0_picture_height)])), (a0_trial, .inr (0, [.ref a0_trial_marks, .int (iI a0_trial_size), .int (iI z13.1), .int (iI z13.2.1)])), (a0_picture_aboves, .inl (cs.1, 181, .inl (aI a0_picture_abovesF))), (a0_picture_belows, .inl (cs.1, 181, .inl (aI a0_picture_belowsF))), (a0_picture_widths, .inl (cs.1, 181, .inl (aI a0_picture_widthsF))), (a0_trial_marks, .inl (cs.1, 180, .inl (aI a0_trial_marksF)))] [] 143 [.int (iI z13.2.2)]) h (fun z13 h => ?_) (fun k10 hk10 h => ?_)
                · obtain ⟨hbo, h⟩ := gB_inv h
                  obtain rfl := Option.some.inj h
                  exact fin _ 143 hbo dX7_obeys_143
                · refine jn_use (P := fun z12 => q_J D κ 4 0 0 [(a0, .inr (7, [.ref a0_now, .ref a0_trial, .ref a0_firstKeep, .ref a0_secondKeep, .ref a0_history, .ref a0_clipboard, .ref a0_reader, .ref a0_writer, .ref a0_picture])), (a0_picture, .inr (4, [.ref a0_picture_widths, .ref a0_picture_aboves, .ref a0_picture_belows, .int (iI a0_picture_row), .int (iI a0_picture_column), .int (iI a0_picture_height)])), (a0_trial, .inr (0, [.ref a0_trial_marks, .int (iI a0_trial_size), .int (iI z12.1), .int (iI z12.2)])), (a0_picture_aboves, .inl (cs.1, 181, .inl (aI a0_picture_abovesF))), (a0_picture_belows, .inl (cs.1, 181, .inl (aI a0_picture_belowsF))), (a0_picture_widths, .inl (cs.1, 181, .inl (aI a0_picture_widthsF))), (a0_trial_marks, .inl (cs.1, 180, .inl (aI a0_trial_marksF)))] [] 142 []) h (fun z12 h => ?_) (fun k9 hk9 h => ?_)
                  · refine j_iconst (pc := 142) ok dX7_obeys_142 ?_
                    exact hk10 (z12.1, z12.2, 0) h
                  · refine j_if_ne (pc := 125) 142 ok dX7_obeys_125 (by decide) h (fun h => ?_) (fun h => ?_)
                    · refine j_lv [] rfl ?_
                      exact hk9 (a0_trial_caret, a0_trial_from) h
                    · refine j_aload_n (pc := 128) 2 ok dX7_obeys_128 rfl rfl ?_
                      refine gf_X7_16_7 (pc := 129) 0 ok rfl dX7_obeys_129 ?_
                      obtain ⟨r11, hr11, h⟩ := bd_inv h
                      refine j_callV (pc := 132) ok (k_X0_growSelection (a0 := a0_trial) (a0_marks := a0_trial_marks) (a0_size := a0_trial_size) (a0_caret := a0_trial_caret) (a0_from := a0_trial_from) (a0_marksF := a0_trial_marksF) hr11) gV_X7_206 ⟨rfl, hd_X0_growSelection⟩ [2, 6] (by decide) rfl rfl 2 rfl rfl rfl rfl ⟨Nat.zero_le _, Nat.zero_le _⟩ (Nat.le_of_ble_eq_true rfl) dX7_obeys_132 rfl [(a0, .inr (7, [.ref a0_now, .ref a0_trial, .ref a0_firstKeep, .ref a0_secondKeep, .ref a0_history, .ref a0_clipboard, .ref a0_reader, .ref a0_writer, .ref a0_picture])), (a0_picture, .inr (4, [.ref a0_picture_widths, .ref a0_picture_aboves, .ref a0_picture_belows, .int (iI a0_picture_row), .int (iI a0_picture_column), .int (iI a0_picture_height)])), (a0_trial, .inr (0, [.ref a0_trial_marks, .int (iI a0_trial_size), .int (iI r11.2.1), .int (iI r11.2.2)])), (a0_picture_aboves, .inl (cs.1, 181, .inl (aI a0_picture_abovesF))), (a0_picture_belows, .inl (cs.1, 181, .inl (aI a0_picture_belowsF))), (a0_picture_widths, .inl (cs.1, 181, .inl (aI a0_picture_widthsF))), (a0_trial_marks, .inl (cs.1, 180, .inl (aI a0_trial_marksF)))] rfl ?_
                      refine j_if_eq (pc := 135) 142 ok dX7_obeys_135 (by decide) h (fun h => ?_) (fun h => ?_)
                      · refine j_lv [] rfl ?_
                        exact hk9 (r11.2.1, r11.2.2) h
                      · refine j_iconst (pc := 138) ok dX7_obeys_138 ?_
                        refine j_goto (pc := 139) 143 ok dX7_obeys_139 (by decide) ?_
                        refine j_lv [] rfl ?_
                        exact hk10 (r11.2.1, r11.2.2, 1) h
              · have h := h2 e32_6
                obtain ⟨hR, h1, h2⟩ := cEq_inv h
                by_cases e32_7 : x1.tdiv 1000 = 7
                · have h := h1 e32_7
                  refine j_tabIn (pc := 32) 7 144 ok dX7_obeys_32 hR.1 e32_7 (by decide) rfl (by decide) ?_
                  refine j_aload_n (pc := 144) 2 ok dX7_obeys_144 rfl rfl ?_
                  refine gf_X7_16_7 (pc := 145) 0 ok rfl dX7_obeys_145 ?_
                  obtain ⟨r14, hr14, h⟩ := bd_inv h
                  refine j_callU (pc := 148) ok (k_X3_allItems (a0 := a0_trial) (a0_marks := a0_trial_marks) (a0_ci := 0) (a0_fx := [.int (iI a0_trial_caret), .int (iI a0_trial_from)]) (a0_marksN := 180) (a0_size := a0_trial_size) (a0_marksF := a0_trial_marksF) (q_mk0 _ _) hr14) gU_X7_124 rfl hd_X3_allItems [2, 6] (by decide) rfl rfl 2 rfl rfl rfl rfl ⟨Nat.zero_le _, Nat.zero_le _⟩ (Nat.le_of_ble_eq_true rfl) dX7_obeys_148 rfl [(a0, .inr (7, [.ref a0_now, .ref a0_trial, .ref a0_firstKeep, .ref a0_secondKeep, .ref a0_history, .ref a0_clipboard, .ref a0_reader, .ref a0_writer, .ref a0_picture])), (a0_picture, .inr (4, [.ref a0_picture_widths, .ref a0_picture_aboves, .ref a0_picture_belows, .int (iI a0_picture_row), .int (iI a0_picture_column), .int (iI a0_picture_height)])), (a0_trial, .inr (0, [.ref a0_trial_marks, .int (iI a0_trial_size), .int (iI a0_trial_caret), .int (iI a0_trial_from)])), (a0_picture_aboves, .inl (cs.1, 181, .inl (aI a0_picture_abovesF))), (a0_picture_belows, .inl (cs.1, 181, .inl (aI a0_picture_belowsF))), (a0_picture_widths, .inl (cs.1, 181, .inl (aI a0_picture_widthsF))), (a0_trial_marks, .inl (cs.1, 180, .inl (aI a0_trial_marksF)))] rfl ?_
                  refine j_iload_n (pc := 151) 0 ok dX7_obeys_151 rfl rfl ?_
                  refine jn_use (P := fun z16 => q_J D κ 4 0 0 [(a0, .inr (7, [.ref a0_now, .ref a0_trial, .ref a0_firstKeep, .ref a0_secondKeep, .ref a0_history, .ref a0_clipboard, .ref a0_reader, .ref a0_writer, .ref a0_picture])), (a0_picture, .inr (4, [.ref a0_picture_widths, .ref a0_picture_aboves, .ref a0_picture_belows, .int (iI a0_picture_row), .int (iI a0_picture_column), .int (iI a0_picture_height)])), (a0_trial, .inr (0, [.ref a0_trial_marks, .int (iI a0_trial_size), .int (iI a0_trial_caret), .int (iI a0_trial_from)])), (a0_picture_aboves, .inl (cs.1, 181, .inl (aI a0_picture_abovesF))), (a0_picture_belows, .inl (cs.1, 181, .inl (aI a0_picture_belowsF))), (a0_picture_widths, .inl (cs.1, 181, .inl (aI a0_picture_widthsF))), (a0_trial_marks, .inl (cs.1, 180, .inl (aI a0_trial_marksF)))] [] 160 [.int (iI z16)]) h (fun z16 h => ?_) (fun k15 hk15 h => ?_)
                  · obtain ⟨hbo, h⟩ := gB_inv h
                    obtain rfl := Option.some.inj h
                    exact fin _ 160 hbo dX7_obeys_160
                  · refine j_icmp_ne (pc := 152) 159 ok dX7_obeys_152 (by decide) h (fun h => ?_) (fun h => ?_)
                    · refine j_iconst (pc := 159) ok dX7_obeys_159 ?_
                      refine j_lv [] rfl ?_
                      exact hk15 0 h
                    · refine j_iconst (pc := 155) ok dX7_obeys_155 ?_
                      refine j_goto (pc := 156) 160 ok dX7_obeys_156 (by decide) ?_
                      refine j_lv [] rfl ?_
                      exact hk15 1 h
                · have h := h2 e32_7
                  obtain ⟨hR, h1, h2⟩ := cEq_inv h
                  by_cases e32_8 : x1.tdiv 1000 = 8
                  · have h := h1 e32_8
                    refine j_tabIn (pc := 32) 8 161 ok dX7_obeys_32 hR.1 e32_8 (by decide) rfl (by decide) ?_
                    refine j_aload_n (pc := 161) 2 ok dX7_obeys_161 rfl rfl ?_
                    refine gf_X7_16_7 (pc := 162) 0 ok rfl dX7_obeys_162 ?_
                    refine gf_X7_128_0 (pc := 165) 2 ok rfl dX7_obeys_165 ?_
                    refine j_iload_n (pc := 168) 0 ok dX7_obeys_168 rfl rfl ?_
                    refine jn_use (P := fun z18 => q_J D κ 4 0 0 [(a0, .inr (7, [.ref a0_now, .ref a0_trial, .ref a0_firstKeep, .ref a0_secondKeep, .ref a0_history, .ref a0_clipboard, .ref a0_reader, .ref a0_writer, .ref a0_picture])), (a0_picture, .inr (4, [.ref a0_picture_widths, .ref a0_picture_aboves, .ref a0_picture_belows, .int (iI a0_picture_row), .int (iI a0_picture_column), .int (iI a0_picture_height)])), (a0_trial, .inr (0, [.ref a0_trial_marks, .int (iI a0_trial_size), .int (iI a0_trial_caret), .int (iI a0_trial_from)])), (a0_picture_aboves, .inl (cs.1, 181, .inl (aI a0_picture_abovesF))), (a0_picture_belows, .inl (cs.1, 181, .inl (aI a0_picture_belowsF))), (a0_picture_widths, .inl (cs.1, 181, .inl (aI a0_picture_widthsF))), (a0_trial_marks, .inl (cs.1, 180, .inl (aI a0_trial_marksF)))] [] 177 [.int (iI z18)]) h (fun z18 h => ?_) (fun k17 hk17 h => ?_)
                    · obtain ⟨hbo, h⟩ := gB_inv h
                      obtain rfl := Option.some.inj h
                      exact fin _ 177 hbo dX7_obeys_177
                    · refine j_icmp_ne (pc := 169) 176 ok dX7_obeys_169 (by decide) h (fun h => ?_) (fun h => ?_)
                      · refine j_iconst (pc := 176) ok dX7_obeys_176 ?_
                        refine j_lv [] rfl ?_
                        exact hk17 0 h
                      · refine j_iconst (pc := 172) ok dX7_obeys_172 ?_
                        refine j_goto (pc := 173) 177 ok dX7_obeys_173 (by decide) ?_
                        refine j_lv [] rfl ?_
                        exact hk17 1 h
                  · have h := h2 e32_8
                    obtain ⟨hR, h1, h2⟩ := cEq_inv h
                    by_cases e32_9 : x1.tdiv 1000 = 9
                    · have h := h1 e32_9
                      refine j_tabIn (pc := 32) 9 178 ok dX7_obeys_32 hR.1 e32_9 (by decide) rfl (by decide) ?_
                      refine j_aload_n (pc := 178) 2 ok dX7_obeys_178 rfl rfl ?_
                      refine gf_X7_62_7 (pc := 179) 0 ok rfl dX7_obeys_179 ?_
                      refine j_aload_n (pc := 182) 2 ok dX7_obeys_182 rfl rfl ?_
                      refine gf_X7_16_7 (pc := 183) 0 ok rfl dX7_obeys_183 ?_
                      obtain ⟨r19, hr19, h⟩ := bd_inv h
                      refine j_callV (pc := 186) ok (k_X4_measure (a0 := a0_picture) (a0_widths := a0_picture_widths) (a0_aboves := a0_picture_aboves) (a0_belows := a0_picture_belows) (a1 := a0_trial) (a1_marks := a0_trial_marks) (a1_ci := 0) (a1_fx := [.int (iI a0_trial_caret), .int (iI a0_trial_from)]) (a1_marksN := 180) (a0_row := a0_picture_row) (a0_column := a0_picture_column) (a0_height := a0_picture_height) (a0_abovesF := a0_picture_abovesF) (a0_belowsF := a0_picture_belowsF) (a0_widthsF := a0_picture_widthsF) (a1_size := a0_trial_size) (a1_marksF := a0_trial_marksF) (q_mk0 _ _) hr19) gV_X7_271 ⟨rfl, hd_X4_measure⟩ [1, 3, 4, 5, 2, 6] (by decide) rfl rfl 1 rfl rfl rfl rfl ⟨Nat.zero_le _, Nat.zero_le _⟩ (Nat.le_of_ble_eq_true rfl) dX7_obeys_186 rfl [(a0, .inr (7, [.ref a0_now, .ref a0_trial, .ref a0_firstKeep, .ref a0_secondKeep, .ref a0_history, .ref a0_clipboard, .ref a0_reader, .ref a0_writer, .ref a0_picture])), (a0_picture, .inr (4, [.ref a0_picture_widths, .ref a0_picture_aboves, .ref a0_picture_belows, .int (iI a0_picture_row), .int (iI a0_picture_column), .int (iI a0_picture_height)])), (a0_trial, .inr (0, [.ref a0_trial_marks, .int (iI a0_trial_size), .int (iI a0_trial_caret), .int (iI a0_trial_from)])), (a0_picture_aboves, .inl (cs.1, 181, .inl (aI r19.1))), (a0_picture_belows, .inl (cs.1, 181, .inl (aI r19.2.1))), (a0_picture_widths, .inl (cs.1, 181, .inl (aI r19.2.2))), (a0_trial_marks, .inl (cs.1, 180, .inl (aI a0_trial_marksF)))] rfl ?_
                      refine j_aload_n (pc := 189) 2 ok dX7_obeys_189 rfl rfl ?_
                      refine gf_X7_62_7 (pc := 190) 0 ok rfl dX7_obeys_190 ?_
                      refine j_iconst (pc := 193) ok dX7_obeys_193 ?_
                      obtain ⟨r20, hr20, h⟩ := bd_inv h
                      refine j_callV (pc := 194) ok (k_X4_width (a0 := a0_picture) (a0_widths := a0_picture_widths) (a0_aboves := a0_picture_aboves) (a0_belows := a0_picture_belows) (a0_row := a0_picture_row) (a0_column := a0_picture_column) (a0_height := a0_picture_height) (a0_widthsF := r19.2.2) (x1 := 0) hr20) gV_X7_274 ⟨rfl, hd_X4_width⟩ [1, 5] (by decide) rfl rfl 1 rfl rfl rfl rfl ⟨Nat.zero_le _, Nat.zero_le _⟩ (Nat.le_of_ble_eq_true rfl) dX7_obeys_194 rfl [(a0, .inr (7, [.ref a0_now, .ref a0_trial, .ref a0_firstKeep, .ref a0_secondKeep, .ref a0_history, .ref a0_clipboard, .ref a0_reader, .ref a0_writer, .ref a0_picture])), (a0_picture, .inr (4, [.ref a0_picture_widths, .ref a0_picture_aboves, .ref a0_picture_belows, .int (iI a0_picture_row), .int (iI a0_picture_column), .int (iI a0_picture_height)])), (a0_trial, .inr (0, [.ref a0_trial_marks, .int (iI a0_trial_size), .int (iI a0_trial_caret), .int (iI a0_trial_from)])), (a0_picture_aboves, .inl (cs.1, 181, .inl (aI r19.1))), (a0_picture_belows, .inl (cs.1, 181, .inl (aI r19.2.1))), (a0_picture_widths, .inl (cs.1, 181, .inl (aI r19.2.2))), (a0_trial_marks, .inl (cs.1, 180, .inl (aI a0_trial_marksF)))] rfl ?_
                      refine j_iload_n (pc := 197) 0 ok dX7_obeys_197 rfl rfl ?_
                      refine jn_use (P := fun z22 => q_J D κ 4 0 0 [(a0, .inr (7, [.ref a0_now, .ref a0_trial, .ref a0_firstKeep, .ref a0_secondKeep, .ref a0_history, .ref a0_clipboard, .ref a0_reader, .ref a0_writer, .ref a0_picture])), (a0_picture, .inr (4, [.ref a0_picture_widths, .ref a0_picture_aboves, .ref a0_picture_belows, .int (iI a0_picture_row), .int (iI a0_picture_column), .int (iI a0_picture_height)])), (a0_trial, .inr (0, [.ref a0_trial_marks, .int (iI a0_trial_size), .int (iI a0_trial_caret), .int (iI a0_trial_from)])), (a0_picture_aboves, .inl (cs.1, 181, .inl (aI r19.1))), (a0_picture_belows, .inl (cs.1, 181, .inl (aI r19.2.1))), (a0_picture_widths, .inl (cs.1, 181, .inl (aI r19.2.2))), (a0_trial_marks, .inl (cs.1, 180, .inl (aI a0_trial_marksF)))] [] 206 [.int (iI z22)]) h (fun z22 h => ?_) (fun k21 hk21 h => ?_)
                      · obtain ⟨hbo, h⟩ := gB_inv h
                        obtain rfl := Option.some.inj h
                        exact fin _ 206 hbo dX7_obeys_206
                      · refine j_icmp_ne (pc := 198) 205 ok dX7_obeys_198 (by decide) h (fun h => ?_) (fun h => ?_)
                        · refine j_iconst (pc := 205) ok dX7_obeys_205 ?_
                          refine j_lv [] rfl ?_
                          exact hk21 0 h
                        · refine j_iconst (pc := 201) ok dX7_obeys_201 ?_
                          refine j_goto (pc := 202) 206 ok dX7_obeys_202 (by decide) ?_
                          refine j_lv [] rfl ?_
                          exact hk21 1 h
                    · have h := h2 e32_9
                      refine j_tabOut (pc := 32) 207 ok dX7_obeys_32 hR.1 (by omega) (by decide) ?_
                      refine j_iconst (pc := 207) ok dX7_obeys_207 ?_
                      obtain ⟨hbo, h⟩ := gB_inv h
                      obtain rfl := Option.some.inj h
                      exact fin _ 208 hbo dX7_obeys_208
    · refine j_iconst (pc := 29) ok dX7_obeys_29 ?_
      obtain ⟨hbo, h⟩ := gB_inv h
      obtain rfl := Option.some.inj h
      exact fin _ 30 hbo dX7_obeys_30
  · refine j_aload_n (pc := 17) 2 ok dX7_obeys_17 rfl rfl ?_
    refine j_iload_n (pc := 18) 0 ok dX7_obeys_18 rfl rfl ?_
    obtain ⟨r23, hr23, h⟩ := bd_inv h
    refine j_callV (pc := 19) ok (k_X7_typesInTrial (a0 := a0) (a0_now := a0_now) (a0_trial := a0_trial) (a0_firstKeep := a0_firstKeep) (a0_secondKeep := a0_secondKeep) (a0_history := a0_history) (a0_clipboard := a0_clipboard) (a0_reader := a0_reader) (a0_writer := a0_writer) (a0_picture := a0_picture) (a0_trial_marks := a0_trial_marks) (a0_trial_size := a0_trial_size) (a0_trial_caret := a0_trial_caret) (a0_trial_from := a0_trial_from) (a0_trial_marksF := a0_trial_marksF) (x1 := x1.tmod 1000) hr23) gV_X7_304 ⟨rfl, hd_X7_typesInTrial⟩ [0, 2, 6] (by decide) rfl rfl 0 rfl rfl rfl rfl ⟨Nat.zero_le _, Nat.zero_le _⟩ (Nat.le_of_ble_eq_true rfl) dX7_obeys_19 rfl [(a0, .inr (7, [.ref a0_now, .ref a0_trial, .ref a0_firstKeep, .ref a0_secondKeep, .ref a0_history, .ref a0_clipboard, .ref a0_reader, .ref a0_writer, .ref a0_picture])), (a0_picture, .inr (4, [.ref a0_picture_widths, .ref a0_picture_aboves, .ref a0_picture_belows, .int (iI a0_picture_row), .int (iI a0_picture_column), .int (iI a0_picture_height)])), (a0_trial, .inr (0, [.ref a0_trial_marks, .int (iI r23.2.1), .int (iI r23.2.2.1), .int (iI r23.2.2.2.1)])), (a0_picture_aboves, .inl (cs.1, 181, .inl (aI a0_picture_abovesF))), (a0_picture_belows, .inl (cs.1, 181, .inl (aI a0_picture_belowsF))), (a0_picture_widths, .inl (cs.1, 181, .inl (aI a0_picture_widthsF))), (a0_trial_marks, .inl (cs.1, 180, .inl (aI r23.2.2.2.2)))] rfl ?_
    obtain ⟨hbo, h⟩ := gB_inv h
    obtain rfl := Option.some.inj h
    exact fin _ 22 hbo dX7_obeys_22
def f_X7_playRound (a0_trial_size : Int) (a0_trial_caret : Int) (a0_trial_from : Int) (a0_trial_marksF : (Nat → Int)) (x1 : Int) : Option (Int × Int × Int × (Nat → Int)) := gR x1 (gR (x1.tdiv 8) (gR x1 (jn (fun (z11 : Int × Int × Int × (Nat → Int)) => some (z11.1, z11.2.1, z11.2.2.1, z11.2.2.2)) (fun k3 => jn (fun (z9 : Unit) => gR ((x1.tdiv 8).tmod 64) (bd (f_X7_typesInTrial a0_trial_size a0_trial_caret a0_trial_from a0_trial_marksF (97 + (((x1.tdiv 8).tmod 64).tmod 17))) (fun r10 => k3 (r10.2.1, r10.2.2.1, r10.2.2.2.1, r10.2.2.2.2)))) (fun k2 => jn (fun (z7 : Unit) => gR ((x1.tdiv 8).tmod 64) (bd (f_X7_wrapsInTrial a0_trial_size a0_trial_caret a0_trial_from a0_trial_marksF (1 + (((x1.tdiv 8).tmod 64).tmod 5))) (fun r8 => k3 (r8.2.1, r8.2.2.1, r8.2.2.2.1, r8.2.2.2.2)))) (fun k1 => cEq (x1.tmod 8) 0 (k2 ()) (cEq (x1.tmod 8) 1 (k2 ()) (cEq (x1.tmod 8) 2 (k2 ()) (cEq (x1.tmod 8) 3 (k1 ()) (cEq (x1.tmod 8) 4 (k1 ()) (cEq (x1.tmod 8) 5 (bd (f_X0_shiftCaret a0_trial_size a0_trial_caret a0_trial_from (((x1.tdiv 8).tmod 64) - 32)) (fun r4 => k3 (a0_trial_size, r4.1, r4.2, a0_trial_marksF))) (cEq (x1.tmod 8) 6 (bd (f_X7_deletesInTrial a0_trial_size a0_trial_caret a0_trial_from a0_trial_marksF) (fun r5 => k3 (r5.2.1, r5.2.2.1, r5.2.2.2.1, r5.2.2.2.2))) (bd (f_X0_growSelection a0_trial_size a0_trial_caret a0_trial_from a0_trial_marksF) (fun r6 => k3 (a0_trial_size, r6.2.1, r6.2.2, a0_trial_marksF)))))))))))))))
set_option maxRecDepth 100000 in
set_option maxHeartbeats 4000000 in
theorem k_X7_playRound {D : va_G} {cs : q_CS} {a0 a0_now a0_trial a0_firstKeep a0_secondKeep a0_history a0_clipboard a0_reader a0_writer a0_picture a0_trial_marks : Nat} {a0_trial_size a0_trial_caret a0_trial_from : Int} {a0_trial_marksF : (Nat → Int)} {x1 : Int} {r : (Int × Int × Int × (Nat → Int))} (h : f_X7_playRound a0_trial_size a0_trial_caret a0_trial_from a0_trial_marksF x1 = some r) : q_M D cs yX7_playRound cX7_playRound 3 none 5 109 [.ref a0, .int (iI x1)] [(a0, .inr (7, [.ref a0_now, .ref a0_trial, .ref a0_firstKeep, .ref a0_secondKeep, .ref a0_history, .ref a0_clipboard, .ref a0_reader, .ref a0_writer, .ref a0_picture])), (a0_trial, .inr (0, [.ref a0_trial_marks, .int (iI a0_trial_size), .int (iI a0_trial_caret), .int (iI a0_trial_from)])), (a0_trial_marks, .inl (cs.1, 180, .inl (aI a0_trial_marksF)))] none [(a0, .inr (7, [.ref a0_now, .ref a0_trial, .ref a0_firstKeep, .ref a0_secondKeep, .ref a0_history, .ref a0_clipboard, .ref a0_reader, .ref a0_writer, .ref a0_picture])), (a0_trial, .inr (0, [.ref a0_trial_marks, .int (iI r.1), .int (iI r.2.1), .int (iI r.2.2.1)])), (a0_trial_marks, .inl (cs.1, 180, .inl (aI r.2.2.2)))] := by
  refine q_start_v [(0, .ref a0), (1, .int (iI x1))] RX7 rfl (by decide +kernel) rfl (Nat.le_of_ble_eq_true rfl) (fun κ ok fin => ?_)
  unfold f_X7_playRound at h
  refine j_iload_n (pc := 0) 1 ok dX7_playRound_0 rfl rfl ?_
  refine j_bipush (pc := 1) ok dX7_playRound_1 (by decide) ?_
  refine j_idiv (pc := 3) ok dX7_playRound_3 (by decide) (by decide) h (fun h => ?_)
  refine j_bipush (pc := 4) ok dX7_playRound_4 (by decide) ?_
  refine j_irem (pc := 6) ok dX7_playRound_6 (by decide) (by decide) h (fun h => ?_)
  refine j_istore_n (pc := 7) (lv' := [(2, .int (iI ((x1.tdiv 8).tmod 64))), (0, .ref a0), (1, .int (iI x1))]) ok dX7_playRound_7 rfl (by decide) rfl ?_
  refine j_iload_n (pc := 8) 2 ok dX7_playRound_8 rfl rfl ?_
  refine j_bipush (pc := 9) ok dX7_playRound_9 (by decide) ?_
  refine j_irem (pc := 11) ok dX7_playRound_11 (by decide) (by decide) h (fun h => ?_)
  refine jn_use (P := fun z11 => q_J D κ 3 0 0 [(a0, .inr (7, [.ref a0_now, .ref a0_trial, .ref a0_firstKeep, .ref a0_secondKeep, .ref a0_history, .ref a0_clipboard, .ref a0_reader, .ref a0_writer, .ref a0_picture])), (a0_trial, .inr (0, [.ref a0_trial_marks, .int (iI z11.1), .int (iI z11.2.1), .int (iI z11.2.2.1)])), (a0_trial_marks, .inl (cs.1, 180, .inl (aI z11.2.2.2)))] [] 114 []) h (fun z11 h => ?_) (fun k3 hk3 h => ?_)
  · obtain rfl := Option.some.inj h
    exact fin _ 114 dX7_playRound_114
  · refine jn_use (P := fun z9 => q_J D κ 3 0 0 [(a0, .inr (7, [.ref a0_now, .ref a0_trial, .ref a0_firstKeep, .ref a0_secondKeep, .ref a0_history, .ref a0_clipboard, .ref a0_reader, .ref a0_writer, .ref a0_picture])), (a0_trial, .inr (0, [.ref a0_trial_marks, .int (iI a0_trial_size), .int (iI a0_trial_caret), .int (iI a0_trial_from)])), (a0_trial_marks, .inl (cs.1, 180, .inl (aI a0_trial_marksF)))] [(0, .ref a0), (2, .int (iI ((x1.tdiv 8).tmod 64)))] 56 []) h (fun z9 h => ?_) (fun k2 hk2 h => ?_)
    · refine j_aload_n (pc := 56) 0 ok dX7_playRound_56 rfl rfl ?_
      refine j_bipush (pc := 57) ok dX7_playRound_57 (by decide) ?_
      refine j_iload_n (pc := 59) 1 ok dX7_playRound_59 rfl rfl ?_
      refine j_bipush (pc := 60) ok dX7_playRound_60 (by decide) ?_
      refine j_irem (pc := 62) ok dX7_playRound_62 (by decide) (by decide) h (fun h => ?_)
      refine j_iadd (pc := 63) ok dX7_playRound_63 ?_
      obtain ⟨r10, hr10, h⟩ := bd_inv h
      refine j_callV (pc := 64) ok (k_X7_typesInTrial (a0 := a0) (a0_now := a0_now) (a0_trial := a0_trial) (a0_firstKeep := a0_firstKeep) (a0_secondKeep := a0_secondKeep) (a0_history := a0_history) (a0_clipboard := a0_clipboard) (a0_reader := a0_reader) (a0_writer := a0_writer) (a0_picture := a0_picture) (a0_trial_marks := a0_trial_marks) (a0_trial_size := a0_trial_size) (a0_trial_caret := a0_trial_caret) (a0_trial_from := a0_trial_from) (a0_trial_marksF := a0_trial_marksF) (x1 := 97 + (((x1.tdiv 8).tmod 64).tmod 17)) hr10) gV_X7_304 ⟨rfl, hd_X7_typesInTrial⟩ [0, 1, 2] (by decide) rfl rfl 0 rfl rfl rfl rfl ⟨Nat.zero_le _, Nat.zero_le _⟩ (Nat.le_of_ble_eq_true rfl) dX7_playRound_64 rfl [(a0, .inr (7, [.ref a0_now, .ref a0_trial, .ref a0_firstKeep, .ref a0_secondKeep, .ref a0_history, .ref a0_clipboard, .ref a0_reader, .ref a0_writer, .ref a0_picture])), (a0_trial, .inr (0, [.ref a0_trial_marks, .int (iI r10.2.1), .int (iI r10.2.2.1), .int (iI r10.2.2.2.1)])), (a0_trial_marks, .inl (cs.1, 180, .inl (aI r10.2.2.2.2)))] rfl ?_
      refine j_pop (pc := 67) ok dX7_playRound_67 rfl ?_
      refine j_goto (pc := 68) 114 ok dX7_playRound_68 (by decide) ?_
      refine j_lv [] rfl ?_
      exact hk3 (r10.2.1, r10.2.2.1, r10.2.2.2.1, r10.2.2.2.2) h
    · refine jn_use (P := fun z7 => q_J D κ 3 0 0 [(a0, .inr (7, [.ref a0_now, .ref a0_trial, .ref a0_firstKeep, .ref a0_secondKeep, .ref a0_history, .ref a0_clipboard, .ref a0_reader, .ref a0_writer, .ref a0_picture])), (a0_trial, .inr (0, [.ref a0_trial_marks, .int (iI a0_trial_size), .int (iI a0_trial_caret), .int (iI a0_trial_from)])), (a0_trial_marks, .inl (cs.1, 180, .inl (aI a0_trial_marksF)))] [(0, .ref a0), (2, .int (iI ((x1.tdiv 8).tmod 64)))] 71 []) h (fun z7 h => ?_) (fun k1 hk1 h => ?_)
      · refine j_aload_n (pc := 71) 0 ok dX7_playRound_71 rfl rfl ?_
        refine j_iconst (pc := 72) ok dX7_playRound_72 ?_
        refine j_iload_n (pc := 73) 1 ok dX7_playRound_73 rfl rfl ?_
        refine j_iconst (pc := 74) ok dX7_playRound_74 ?_
        refine j_irem (pc := 75) ok dX7_playRound_75 (by decide) (by decide) h (fun h => ?_)
        refine j_iadd (pc := 76) ok dX7_playRound_76 ?_
        obtain ⟨r8, hr8, h⟩ := bd_inv h
        refine j_callV (pc := 77) ok (k_X7_wrapsInTrial (a0 := a0) (a0_now := a0_now) (a0_trial := a0_trial) (a0_firstKeep := a0_firstKeep) (a0_secondKeep := a0_secondKeep) (a0_history := a0_history) (a0_clipboard := a0_clipboard) (a0_reader := a0_reader) (a0_writer := a0_writer) (a0_picture := a0_picture) (a0_trial_marks := a0_trial_marks) (a0_trial_size := a0_trial_size) (a0_trial_caret := a0_trial_caret) (a0_trial_from := a0_trial_from) (a0_trial_marksF := a0_trial_marksF) (x1 := 1 + (((x1.tdiv 8).tmod 64).tmod 5)) hr8) gV_X7_307 ⟨rfl, hd_X7_wrapsInTrial⟩ [0, 1, 2] (by decide) rfl rfl 0 rfl rfl rfl rfl ⟨Nat.zero_le _, Nat.zero_le _⟩ (Nat.le_of_ble_eq_true rfl) dX7_playRound_77 rfl [(a0, .inr (7, [.ref a0_now, .ref a0_trial, .ref a0_firstKeep, .ref a0_secondKeep, .ref a0_history, .ref a0_clipboard, .ref a0_reader, .ref a0_writer, .ref a0_picture])), (a0_trial, .inr (0, [.ref a0_trial_marks, .int (iI r8.2.1), .int (iI r8.2.2.1), .int (iI r8.2.2.2.1)])), (a0_trial_marks, .inl (cs.1, 180, .inl (aI r8.2.2.2.2)))] rfl ?_
        refine j_pop (pc := 80) ok dX7_playRound_80 rfl ?_
        refine j_goto (pc := 81) 114 ok dX7_playRound_81 (by decide) ?_
        refine j_lv [] rfl ?_
        exact hk3 (r8.2.1, r8.2.2.1, r8.2.2.2.1, r8.2.2.2.2) h
      · obtain ⟨hR, h1, h2⟩ := cEq_inv h
        by_cases e12_0 : x1.tmod 8 = 0
        · have h := h1 e12_0
          refine j_tabIn (pc := 12) 0 56 ok dX7_playRound_12 hR.1 e12_0 (by decide) rfl (by decide) ?_
          refine j_lv [1, 0] rfl ?_
          exact hk2 () h
        · have h := h2 e12_0
          obtain ⟨hR, h1, h2⟩ := cEq_inv h
          by_cases e12_1 : x1.tmod 8 = 1
          · have h := h1 e12_1
            refine j_tabIn (pc := 12) 1 56 ok dX7_playRound_12 hR.1 e12_1 (by decide) rfl (by decide) ?_
            refine j_lv [1, 0] rfl ?_
            exact hk2 () h
          · have h := h2 e12_1
            obtain ⟨hR, h1, h2⟩ := cEq_inv h
            by_cases e12_2 : x1.tmod 8 = 2
            · have h := h1 e12_2
              refine j_tabIn (pc := 12) 2 56 ok dX7_playRound_12 hR.1 e12_2 (by decide) rfl (by decide) ?_
              refine j_lv [1, 0] rfl ?_
              exact hk2 () h
            · have h := h2 e12_2
              obtain ⟨hR, h1, h2⟩ := cEq_inv h
              by_cases e12_3 : x1.tmod 8 = 3
              · have h := h1 e12_3
                refine j_tabIn (pc := 12) 3 71 ok dX7_playRound_12 hR.1 e12_3 (by decide) rfl (by decide) ?_
                refine j_lv [1, 0] rfl ?_
                exact hk1 () h
              · have h := h2 e12_3
                obtain ⟨hR, h1, h2⟩ := cEq_inv h
                by_cases e12_4 : x1.tmod 8 = 4
                · have h := h1 e12_4
                  refine j_tabIn (pc := 12) 4 71 ok dX7_playRound_12 hR.1 e12_4 (by decide) rfl (by decide) ?_
                  refine j_lv [1, 0] rfl ?_
                  exact hk1 () h
                · have h := h2 e12_4
                  obtain ⟨hR, h1, h2⟩ := cEq_inv h
                  by_cases e12_5 : x1.tmod 8 = 5
                  · have h := h1 e12_5
                    refine j_tabIn (pc := 12) 5 84 ok dX7_playRound_12 hR.1 e12_5 (by decide) rfl (by decide) ?_
                    refine j_aload_n (pc := 84) 1 ok dX7_playRound_84 rfl rfl ?_
                    refine gf_X7_16_7 (pc := 85) 0 ok rfl dX7_playRound_85 ?_
                    refine j_iload_n (pc := 88) 0 ok dX7_playRound_88 rfl rfl ?_
                    refine j_bipush (pc := 89) ok dX7_playRound_89 (by decide) ?_
                    refine j_isub (pc := 91) ok dX7_playRound_91 ?_
                    obtain ⟨r4, hr4, h⟩ := bd_inv h
                    refine j_callV (pc := 92) ok (k_X0_shiftCaret (a0 := a0_trial) (a0_marks := a0_trial_marks) (a0_size := a0_trial_size) (a0_caret := a0_trial_caret) (a0_from := a0_trial_from) (x1 := ((x1.tdiv 8).tmod 64) - 32) hr4) gV_X7_191 ⟨rfl, hd_X0_shiftCaret⟩ [1] (by decide) rfl rfl 1 rfl rfl rfl rfl ⟨Nat.zero_le _, Nat.zero_le _⟩ (Nat.le_of_ble_eq_true rfl) dX7_playRound_92 rfl [(a0, .inr (7, [.ref a0_now, .ref a0_trial, .ref a0_firstKeep, .ref a0_secondKeep, .ref a0_history, .ref a0_clipboard, .ref a0_reader, .ref a0_writer, .ref a0_picture])), (a0_trial, .inr (0, [.ref a0_trial_marks, .int (iI a0_trial_size), .int (iI r4.1), .int (iI r4.2)])), (a0_trial_marks, .inl (cs.1, 180, .inl (aI a0_trial_marksF)))] rfl ?_
                    refine j_goto (pc := 95) 114 ok dX7_playRound_95 (by decide) ?_
                    refine j_lv [] rfl ?_
                    exact hk3 (a0_trial_size, r4.1, r4.2, a0_trial_marksF) h
                  · have h := h2 e12_5
                    obtain ⟨hR, h1, h2⟩ := cEq_inv h
                    by_cases e12_6 : x1.tmod 8 = 6
                    · have h := h1 e12_6
                      refine j_tabIn (pc := 12) 6 98 ok dX7_playRound_12 hR.1 e12_6 (by decide) rfl (by decide) ?_
                      refine j_aload_n (pc := 98) 1 ok dX7_playRound_98 rfl rfl ?_
                      obtain ⟨r5, hr5, h⟩ := bd_inv h
                      refine j_callV (pc := 99) ok (k_X7_deletesInTrial (a0 := a0) (a0_now := a0_now) (a0_trial := a0_trial) (a0_firstKeep := a0_firstKeep) (a0_secondKeep := a0_secondKeep) (a0_history := a0_history) (a0_clipboard := a0_clipboard) (a0_reader := a0_reader) (a0_writer := a0_writer) (a0_picture := a0_picture) (a0_trial_marks := a0_trial_marks) (a0_trial_size := a0_trial_size) (a0_trial_caret := a0_trial_caret) (a0_trial_from := a0_trial_from) (a0_trial_marksF := a0_trial_marksF) hr5) gV_X7_310 ⟨rfl, hd_X7_deletesInTrial⟩ [0, 1, 2] (by decide) rfl rfl 0 rfl rfl rfl rfl ⟨Nat.zero_le _, Nat.zero_le _⟩ (Nat.le_of_ble_eq_true rfl) dX7_playRound_99 rfl [(a0, .inr (7, [.ref a0_now, .ref a0_trial, .ref a0_firstKeep, .ref a0_secondKeep, .ref a0_history, .ref a0_clipboard, .ref a0_reader, .ref a0_writer, .ref a0_picture])), (a0_trial, .inr (0, [.ref a0_trial_marks, .int (iI r5.2.1), .int (iI r5.2.2.1), .int (iI r5.2.2.2.1)])), (a0_trial_marks, .inl (cs.1, 180, .inl (aI r5.2.2.2.2)))] rfl ?_
                      refine j_pop (pc := 102) ok dX7_playRound_102 rfl ?_
                      refine j_goto (pc := 103) 114 ok dX7_playRound_103 (by decide) ?_
                      refine j_lv [] rfl ?_
                      exact hk3 (r5.2.1, r5.2.2.1, r5.2.2.2.1, r5.2.2.2.2) h
                    · have h := h2 e12_6
                      refine j_tabOut (pc := 12) 106 ok dX7_playRound_12 hR.1 (by omega) (by decide) ?_
                      refine j_aload_n (pc := 106) 1 ok dX7_playRound_106 rfl rfl ?_
                      refine gf_X7_16_7 (pc := 107) 0 ok rfl dX7_playRound_107 ?_
                      obtain ⟨r6, hr6, h⟩ := bd_inv h
                      refine j_callV (pc := 110) ok (k_X0_growSelection (a0 := a0_trial) (a0_marks := a0_trial_marks) (a0_size := a0_trial_size) (a0_caret := a0_trial_caret) (a0_from := a0_trial_from) (a0_marksF := a0_trial_marksF) hr6) gV_X7_206 ⟨rfl, hd_X0_growSelection⟩ [1, 2] (by decide) rfl rfl 1 rfl rfl rfl rfl ⟨Nat.zero_le _, Nat.zero_le _⟩ (Nat.le_of_ble_eq_true rfl) dX7_playRound_110 rfl [(a0, .inr (7, [.ref a0_now, .ref a0_trial, .ref a0_firstKeep, .ref a0_secondKeep, .ref a0_history, .ref a0_clipboard, .ref a0_reader, .ref a0_writer, .ref a0_picture])), (a0_trial, .inr (0, [.ref a0_trial_marks, .int (iI a0_trial_size), .int (iI r6.2.1), .int (iI r6.2.2)])), (a0_trial_marks, .inl (cs.1, 180, .inl (aI a0_trial_marksF)))] rfl ?_
                      refine j_pop (pc := 113) ok dX7_playRound_113 rfl ?_
                      refine j_lv [] rfl ?_
                      exact hk3 (a0_trial_size, r6.2.1, r6.2.2, a0_trial_marksF) h
