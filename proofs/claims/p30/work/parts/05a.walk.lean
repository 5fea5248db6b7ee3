def f_X3_take (a0_marksN : Nat) (a1_marksN : Nat) (a0_size : Int) (a0_marksF : (Nat → Int)) (a1_marksF : (Nat → Int)) (x2 : Int) (x3 : Int) : Option (Int × (Nat → Int)) := jn (fun (z2 : Int × (Nat → Int)) => some (z2.1, z2.2)) (fun k1 => cLt x2 0 (k1 (a0_size, a0_marksF)) (cLt (x3 - x2) 0 (k1 (a0_size, a0_marksF)) (cLt ((a1_marksN : Int)) x3 (k1 (a0_size, a0_marksF)) (cLt ((a0_marksN : Int)) (x3 - x2) (k1 (a0_size, a0_marksF)) (gC x2 0 (x3 - x2) a1_marksN a0_marksN (k1 (x3 - x2, va_cpy a1_marksF a0_marksF x2.toNat (0 : Int).toNat (x3 - x2).toNat)))))))
set_option maxRecDepth 100000 in
set_option maxHeartbeats 4000000 in
theorem k_X3_take {D : va_G} {cs : q_CS} {a0 a0_marks a1 a1_marks : Nat} {a0_marksN a1_marksN : Nat} {a0_ci : Nat} {a0_fx : List Value} {a1_ci : Nat} {a1_fx : List Value} {a0_size a1_size : Int} {a0_marksF a1_marksF : (Nat → Int)} {x2 x3 : Int} {r : (Int × (Nat → Int))} (ha0 : q_mk a0_ci a0_fx) (ha1 : q_mk a1_ci a1_fx) (h : f_X3_take a0_marksN a1_marksN a0_size a0_marksF a1_marksF x2 x3 = some r) : q_M D cs yX3_take cX3_take 5 none 1 18 [.ref a0, .ref a1, .int (iI x2), .int (iI x3)] [(a0, .inr (a0_ci, .ref a0_marks :: .int (iI a0_size) :: a0_fx)), (a0_marks, .inl (cs.1, a0_marksN, .inl (aI a0_marksF))), (a1, .inr (a1_ci, .ref a1_marks :: .int (iI a1_size) :: a1_fx)), (a1_marks, .inl (cs.1, a1_marksN, .inl (aI a1_marksF)))] none [(a0, .inr (a0_ci, .ref a0_marks :: .int (iI r.1) :: a0_fx)), (a0_marks, .inl (cs.1, a0_marksN, .inl (aI r.2))), (a1, .inr (a1_ci, .ref a1_marks :: .int (iI a1_size) :: a1_fx)), (a1_marks, .inl (cs.1, a1_marksN, .inl (aI a1_marksF)))] := by
  refine q_start_v [(0, .ref a0), (1, .ref a1), (2, .int (iI x2)), (3, .int (iI x3))] RX3 rfl (by decide +kernel) rfl (Nat.le_of_ble_eq_true rfl) (fun κ ok fin => ?_)
  unfold f_X3_take at h
  refine j_iload_n (pc := 0) 3 ok dX3_take_0 rfl rfl ?_
  refine j_iload_n (pc := 1) 2 ok dX3_take_1 rfl rfl ?_
  refine j_isub (pc := 2) ok dX3_take_2 ?_
  refine j_istore (pc := 3) (lv' := [(4, .int (iI (x3 - x2))), (0, .ref a0), (1, .ref a1), (2, .int (iI x2)), (3, .int (iI x3))]) ok dX3_take_3 (by decide) rfl ?_
  refine j_iload_n (pc := 5) 3 ok dX3_take_5 rfl rfl ?_
  refine jn_use (P := fun z2 => q_J D κ 5 0 0 [(a0, .inr (a0_ci, .ref a0_marks :: .int (iI z2.1) :: a0_fx)), (a0_marks, .inl (cs.1, a0_marksN, .inl (aI z2.2))), (a1, .inr (a1_ci, .ref a1_marks :: .int (iI a1_size) :: a1_fx)), (a1_marks, .inl (cs.1, a1_marksN, .inl (aI a1_marksF)))] [] 54 []) h (fun z2 h => ?_) (fun k1 hk1 h => ?_)
  · obtain rfl := Option.some.inj h
    exact fin _ 54 dX3_take_54
  · refine j_if_lt (pc := 6) 54 ok dX3_take_6 (by decide) h (fun h => ?_) (fun h => ?_)
    · refine j_lv [] rfl ?_
      exact hk1 (a0_size, a0_marksF) h
    · refine j_iload (pc := 9) 0 ok dX3_take_9 rfl ?_
      refine j_if_lt (pc := 11) 54 ok dX3_take_11 (by decide) h (fun h => ?_) (fun h => ?_)
      · refine j_lv [] rfl ?_
        exact hk1 (a0_size, a0_marksF) h
      · refine j_iload_n (pc := 14) 4 ok dX3_take_14 rfl rfl ?_
        refine j_aload_n (pc := 15) 2 ok dX3_take_15 rfl rfl ?_
        refine gm_X3_15 (pc := 16) 2 ok ha1 rfl dX3_take_16 ?_
        refine j_alen (pc := 19) 3 0 ok rfl rfl dX3_take_19 ?_
        refine j_icmp_gt (pc := 20) 54 ok dX3_take_20 (by decide) h (fun h => ?_) (fun h => ?_)
        · refine j_lv [] rfl ?_
          exact hk1 (a0_size, a0_marksF) h
        · refine j_iload (pc := 23) 0 ok dX3_take_23 rfl ?_
          refine j_aload_n (pc := 25) 1 ok dX3_take_25 rfl rfl ?_
          refine gm_X3_15 (pc := 26) 0 ok ha0 rfl dX3_take_26 ?_
          refine j_alen (pc := 29) 1 0 ok rfl rfl dX3_take_29 ?_
          refine j_icmp_gt (pc := 30) 54 ok dX3_take_30 (by decide) h (fun h => ?_) (fun h => ?_)
          · refine j_lv [] rfl ?_
            exact hk1 (a0_size, a0_marksF) h
          · refine j_aload_n (pc := 33) 2 ok dX3_take_33 rfl rfl ?_
            refine gm_X3_15 (pc := 34) 2 ok ha1 rfl dX3_take_34 ?_
            refine j_iload_n (pc := 37) 3 ok dX3_take_37 rfl rfl ?_
            refine j_aload_n (pc := 38) 1 ok dX3_take_38 rfl rfl ?_
            refine gm_X3_15 (pc := 39) 0 ok ha0 rfl dX3_take_39 ?_
            refine j_iconst (pc := 42) ok dX3_take_42 ?_
            refine j_iload (pc := 43) 0 ok dX3_take_43 rfl ?_
            refine j_copyw (pc := 45) 3 1 ok rfl rfl (q_in 339 (by decide +kernel) (by decide +kernel)) (q_in 341 (by decide +kernel) (by decide +kernel)) (q_in 340 (by decide +kernel) (by decide +kernel)) (q_in 55 (by decide +kernel) (by decide +kernel)) (by decide) (by decide) dX3_take_45 h [(a0, .inr (a0_ci, .ref a0_marks :: .int (iI a0_size) :: a0_fx)), (a0_marks, .inl (cs.1, a0_marksN, .inl (aI (va_cpy a1_marksF a0_marksF x2.toNat (0 : Int).toNat (x3 - x2).toNat)))), (a1, .inr (a1_ci, .ref a1_marks :: .int (iI a1_size) :: a1_fx)), (a1_marks, .inl (cs.1, a1_marksN, .inl (aI a1_marksF)))] rfl (fun h => ?_)
            refine j_aload_n (pc := 48) 1 ok dX3_take_48 rfl rfl ?_
            refine j_iload (pc := 49) 0 ok dX3_take_49 rfl ?_
            refine pm_X3_21 (pc := 51) 0 ok ha0 rfl dX3_take_51 [(a0, .inr (a0_ci, .ref a0_marks :: .int (iI (x3 - x2)) :: a0_fx)), (a0_marks, .inl (cs.1, a0_marksN, .inl (aI (va_cpy a1_marksF a0_marksF x2.toNat (0 : Int).toNat (x3 - x2).toNat)))), (a1, .inr (a1_ci, .ref a1_marks :: .int (iI a1_size) :: a1_fx)), (a1_marks, .inl (cs.1, a1_marksN, .inl (aI a1_marksF)))] rfl ?_
            refine j_lv [] rfl ?_
            exact hk1 (x3 - x2, va_cpy a1_marksF a0_marksF x2.toNat (0 : Int).toNat (x3 - x2).toNat) h
def f_X0_become (a0_size : Int) (a0_caret : Int) (a0_from : Int) (a0_marksF : (Nat → Int)) (a1_size : Int) (a1_caret : Int) (a1_from : Int) (a1_marksF : (Nat → Int)) : Option (Int × Int × Int × (Nat → Int)) := bd (f_X3_take 180 180 a0_size a0_marksF a1_marksF 0 a1_size) (fun r1 => some (r1.1, a1_caret, a1_from, r1.2))
set_option maxRecDepth 100000 in
set_option maxHeartbeats 4000000 in
theorem k_X0_become {D : va_G} {cs : q_CS} {a0 a0_marks a1 a1_marks : Nat} {a0_size a0_caret a0_from a1_size a1_caret a1_from : Int} {a0_marksF a1_marksF : (Nat → Int)} {r : (Int × Int × Int × (Nat → Int))} (h : f_X0_become a0_size a0_caret a0_from a0_marksF a1_size a1_caret a1_from a1_marksF = some r) : q_M D cs yX0_become cX0_become 2 none 2 42 [.ref a0, .ref a1] [(a0, .inr (0, [.ref a0_marks, .int (iI a0_size), .int (iI a0_caret), .int (iI a0_from)])), (a0_marks, .inl (cs.1, 180, .inl (aI a0_marksF))), (a1, .inr (0, [.ref a1_marks, .int (iI a1_size), .int (iI a1_caret), .int (iI a1_from)])), (a1_marks, .inl (cs.1, 180, .inl (aI a1_marksF)))] none [(a0, .inr (0, [.ref a0_marks, .int (iI r.1), .int (iI r.2.1), .int (iI r.2.2.1)])), (a0_marks, .inl (cs.1, 180, .inl (aI r.2.2.2))), (a1, .inr (0, [.ref a1_marks, .int (iI a1_size), .int (iI a1_caret), .int (iI a1_from)])), (a1_marks, .inl (cs.1, 180, .inl (aI a1_marksF)))] := by
  refine q_start_v [(0, .ref a0), (1, .ref a1)] RX0 rfl (by decide +kernel) rfl (Nat.le_of_ble_eq_true rfl) (fun κ ok fin => ?_)
  unfold f_X0_become at h
  refine j_aload_n (pc := 0) 0 ok dX0_become_0 rfl rfl ?_
  refine j_aload_n (pc := 1) 1 ok dX0_become_1 rfl rfl ?_
  refine j_iconst (pc := 2) ok dX0_become_2 ?_
  refine j_aload_n (pc := 3) 1 ok dX0_become_3 rfl rfl ?_
  refine gf_X0_9_0 (pc := 4) 2 ok rfl dX0_become_4 ?_
  obtain ⟨r1, hr1, h⟩ := bd_inv h
  refine j_callU (pc := 7) ok (k_X3_take (a0 := a0) (a0_marks := a0_marks) (a0_ci := 0) (a0_fx := [.int (iI a0_caret), .int (iI a0_from)]) (a0_marksN := 180) (a1 := a1) (a1_marks := a1_marks) (a1_ci := 0) (a1_fx := [.int (iI a1_caret), .int (iI a1_from)]) (a1_marksN := 180) (a0_size := a0_size) (a0_marksF := a0_marksF) (a1_size := a1_size) (a1_marksF := a1_marksF) (x2 := 0) (x3 := a1_size) (q_mk0 _ _) (q_mk0 _ _) hr1) gU_X0_15 rfl hd_X3_take [0, 1, 2, 3] (by decide) rfl rfl 0 rfl rfl rfl rfl ⟨Nat.zero_le _, Nat.zero_le _⟩ (Nat.le_of_ble_eq_true rfl) dX0_become_7 rfl [(a0, .inr (0, [.ref a0_marks, .int (iI r1.1), .int (iI a0_caret), .int (iI a0_from)])), (a0_marks, .inl (cs.1, 180, .inl (aI r1.2))), (a1, .inr (0, [.ref a1_marks, .int (iI a1_size), .int (iI a1_caret), .int (iI a1_from)])), (a1_marks, .inl (cs.1, 180, .inl (aI a1_marksF)))] rfl ?_
  refine j_aload_n (pc := 10) 0 ok dX0_become_10 rfl rfl ?_
  refine j_aload_n (pc := 11) 1 ok dX0_become_11 rfl rfl ?_
  refine gf_X0_19_0 (pc := 12) 2 ok rfl dX0_become_12 ?_
  refine pf_X0_19_0 (pc := 15) 0 ok rfl dX0_become_15 [(a0, .inr (0, [.ref a0_marks, .int (iI r1.1), .int (iI a1_caret), .int (iI a0_from)])), (a0_marks, .inl (cs.1, 180, .inl (aI r1.2))), (a1, .inr (0, [.ref a1_marks, .int (iI a1_size), .int (iI a1_caret), .int (iI a1_from)])), (a1_marks, .inl (cs.1, 180, .inl (aI a1_marksF)))] rfl ?_
  refine j_aload_n (pc := 18) 0 ok dX0_become_18 rfl rfl ?_
  refine j_aload_n (pc := 19) 1 ok dX0_become_19 rfl rfl ?_
  refine gf_X0_22_0 (pc := 20) 2 ok rfl dX0_become_20 ?_
  refine pf_X0_22_0 (pc := 23) 0 ok rfl dX0_become_23 [(a0, .inr (0, [.ref a0_marks, .int (iI r1.1), .int (iI a1_caret), .int (iI a1_from)])), (a0_marks, .inl (cs.1, 180, .inl (aI r1.2))), (a1, .inr (0, [.ref a1_marks, .int (iI a1_size), .int (iI a1_caret), .int (iI a1_from)])), (a1_marks, .inl (cs.1, 180, .inl (aI a1_marksF)))] rfl ?_
  obtain rfl := Option.some.inj h
  exact fin _ 26 dX0_become_26
def f_X0_hasSelection (a0_caret : Int) (a0_from : Int) : Option (Int) := jn (fun (z2 : Int) => gB z2 (some z2)) (fun k1 => cLt a0_from a0_caret (k1 1) (k1 0))
set_option maxRecDepth 100000 in
set_option maxHeartbeats 4000000 in
theorem k_X0_hasSelection {D : va_G} {cs : q_CS} {a0 a0_marks : Nat} {a0_size a0_caret a0_from : Int} {r : (Int)} (h : f_X0_hasSelection a0_caret a0_from = some r) : q_M D cs yX0_hasSelection cX0_hasSelection 1 (some .boolean) 0 0 [.ref a0] [(a0, .inr (0, [.ref a0_marks, .int (iI a0_size), .int (iI a0_caret), .int (iI a0_from)]))] (some (.int (iI r))) [(a0, .inr (0, [.ref a0_marks, .int (iI a0_size), .int (iI a0_caret), .int (iI a0_from)]))] := by
  refine q_start_z [(0, .ref a0)] RX0 rfl (by decide +kernel) rfl (Nat.le_of_ble_eq_true rfl) (fun κ ok fin => ?_)
  unfold f_X0_hasSelection at h
  refine j_aload_n (pc := 0) 0 ok dX0_hasSelection_0 rfl rfl ?_
  refine gf_X0_22_0 (pc := 1) 0 ok rfl dX0_hasSelection_1 ?_
  refine j_aload_n (pc := 4) 0 ok dX0_hasSelection_4 rfl rfl ?_
  refine gf_X0_19_0 (pc := 5) 0 ok rfl dX0_hasSelection_5 ?_
  refine jn_use (P := fun z2 => q_J D κ 1 0 0 [(a0, .inr (0, [.ref a0_marks, .int (iI a0_size), .int (iI a0_caret), .int (iI a0_from)]))] [] 16 [.int (iI z2)]) h (fun z2 h => ?_) (fun k1 hk1 h => ?_)
  · obtain ⟨hbo, h⟩ := gB_inv h
    obtain rfl := Option.some.inj h
    exact fin _ 16 hbo dX0_hasSelection_16
  · refine j_icmp_ge (pc := 8) 15 ok dX0_hasSelection_8 (by decide) h (fun h => ?_) (fun h => ?_)
    · refine j_iconst (pc := 15) ok dX0_hasSelection_15 ?_
      refine j_lv [] rfl ?_
      exact hk1 0 h
    · refine j_iconst (pc := 11) ok dX0_hasSelection_11 ?_
      refine j_goto (pc := 12) 16 ok dX0_hasSelection_12 (by decide) ?_
      refine j_lv [] rfl ?_
      exact hk1 1 h
def f_X3_mark (a0_marksN : Nat) (a0_size : Int) (a0_marksF : (Nat → Int)) (x1 : Int) : Option (Int) := jn (fun (z4 : Int) => some z4) (fun k2 => jn (fun (z3 : Unit) => k2 0) (fun k1 => cLt x1 0 (k1 ()) (cLt x1 a0_size (cLt x1 ((a0_marksN : Int)) (gIn x1 a0_marksN (k2 (a0_marksF x1.toNat))) (k1 ())) (k1 ()))))
set_option maxRecDepth 100000 in
set_option maxHeartbeats 4000000 in
theorem k_X3_mark {D : va_G} {cs : q_CS} {a0 a0_marks : Nat} {a0_marksN : Nat} {a0_ci : Nat} {a0_fx : List Value} {a0_size : Int} {a0_marksF : (Nat → Int)} {x1 : Int} {r : (Int)} (ha0 : q_mk a0_ci a0_fx) (h : f_X3_mark a0_marksN a0_size a0_marksF x1 = some r) : q_M D cs yX3_mark cX3_mark 2 (some .int) 0 0 [.ref a0, .int (iI x1)] [(a0, .inr (a0_ci, .ref a0_marks :: .int (iI a0_size) :: a0_fx)), (a0_marks, .inl (cs.1, a0_marksN, .inl (aI a0_marksF)))] (some (.int (iI r))) [(a0, .inr (a0_ci, .ref a0_marks :: .int (iI a0_size) :: a0_fx)), (a0_marks, .inl (cs.1, a0_marksN, .inl (aI a0_marksF)))] := by
  refine q_start_i [(0, .ref a0), (1, .int (iI x1))] RX3 rfl (by decide +kernel) rfl (Nat.le_of_ble_eq_true rfl) rfl (fun κ ok fin => ?_)
  unfold f_X3_mark at h
  refine j_iload_n (pc := 0) 1 ok dX3_mark_0 rfl rfl ?_
  refine jn_use (P := fun z4 => q_J D κ 2 0 0 [(a0, .inr (a0_ci, .ref a0_marks :: .int (iI a0_size) :: a0_fx)), (a0_marks, .inl (cs.1, a0_marksN, .inl (aI a0_marksF)))] [] 31 [.int (iI z4)]) h (fun z4 h => ?_) (fun k2 hk2 h => ?_)
  · obtain rfl := Option.some.inj h
    exact fin _ 31 dX3_mark_31
  · refine jn_use (P := fun z3 => q_J D κ 2 0 0 [(a0, .inr (a0_ci, .ref a0_marks :: .int (iI a0_size) :: a0_fx)), (a0_marks, .inl (cs.1, a0_marksN, .inl (aI a0_marksF)))] [] 30 []) h (fun z3 h => ?_) (fun k1 hk1 h => ?_)
    · refine j_iconst (pc := 30) ok dX3_mark_30 ?_
      exact hk2 0 h
    · refine j_if_lt (pc := 1) 30 ok dX3_mark_1 (by decide) h (fun h => ?_) (fun h => ?_)
      · refine j_lv [] rfl ?_
        exact hk1 () h
      · refine j_iload_n (pc := 4) 1 ok dX3_mark_4 rfl rfl ?_
        refine j_aload_n (pc := 5) 0 ok dX3_mark_5 rfl rfl ?_
        refine gm_X3_21 (pc := 6) 0 ok ha0 rfl dX3_mark_6 ?_
        refine j_icmp_ge (pc := 9) 30 ok dX3_mark_9 (by decide) h (fun h => ?_) (fun h => ?_)
        · refine j_lv [] rfl ?_
          exact hk1 () h
        · refine j_iload_n (pc := 12) 1 ok dX3_mark_12 rfl rfl ?_
          refine j_aload_n (pc := 13) 0 ok dX3_mark_13 rfl rfl ?_
          refine gm_X3_15 (pc := 14) 0 ok ha0 rfl dX3_mark_14 ?_
          refine j_alen (pc := 17) 1 0 ok rfl rfl dX3_mark_17 ?_
          refine j_icmp_ge (pc := 18) 30 ok dX3_mark_18 (by decide) h (fun h => ?_) (fun h => ?_)
          · refine j_lv [] rfl ?_
            exact hk1 () h
          · refine j_aload_n (pc := 21) 0 ok dX3_mark_21 rfl rfl ?_
            refine gm_X3_15 (pc := 22) 0 ok ha0 rfl dX3_mark_22 ?_
            refine j_iload_n (pc := 25) 1 ok dX3_mark_25 rfl rfl ?_
            refine j_iald (pc := 26) 1 ok rfl dX3_mark_26 h (fun h => ?_)
            refine j_goto (pc := 27) 31 ok dX3_mark_27 (by decide) ?_
            refine j_lv [] rfl ?_
            exact hk2 (a0_marksF x1.toNat) h
def f_X7_startsItem (x0 : Int) : Option (Int) := jn (fun (z6 : Int) => gB z6 (some z6)) (fun k3 => jn (fun (z5 : Unit) => k3 1) (fun k2 => jn (fun (z4 : Unit) => cLt x0 42 (k3 0) (k2 ())) (fun k1 => cLt x0 1 (k1 ()) (cLt 5 x0 (k1 ()) (k2 ())))))
set_option maxRecDepth 100000 in
set_option maxHeartbeats 4000000 in
theorem k_X7_startsItem {D : va_G} {cs : q_CS} {x0 : Int} {r : (Int)} (h : f_X7_startsItem x0 = some r) : q_M D cs yX7_startsItem cX7_startsItem 1 (some .boolean) 0 0 [.int (iI x0)] [] (some (.int (iI r))) [] := by
  refine q_start_z [(0, .int (iI x0))] RX7 rfl (by decide +kernel) rfl (Nat.le_of_ble_eq_true rfl) (fun κ ok fin => ?_)
  unfold f_X7_startsItem at h
  refine j_iload_n (pc := 0) 0 ok dX7_startsItem_0 rfl rfl ?_
  refine j_iconst (pc := 1) ok dX7_startsItem_1 ?_
  refine jn_use (P := fun z6 => q_J D κ 1 0 0 [] [] 21 [.int (iI z6)]) h (fun z6 h => ?_) (fun k3 hk3 h => ?_)
  · obtain ⟨hbo, h⟩ := gB_inv h
    obtain rfl := Option.some.inj h
    exact fin _ 21 hbo dX7_startsItem_21
  · refine jn_use (P := fun z5 => q_J D κ 1 0 0 [] [] 16 []) h (fun z5 h => ?_) (fun k2 hk2 h => ?_)
    · refine j_iconst (pc := 16) ok dX7_startsItem_16 ?_
      refine j_goto (pc := 17) 21 ok dX7_startsItem_17 (by decide) ?_
      exact hk3 1 h
    · refine jn_use (P := fun z4 => q_J D κ 1 0 0 [] [(0, .int (iI x0))] 10 []) h (fun z4 h => ?_) (fun k1 hk1 h => ?_)
      · refine j_iload_n (pc := 10) 0 ok dX7_startsItem_10 rfl rfl ?_
        refine j_bipush (pc := 11) ok dX7_startsItem_11 (by decide) ?_
        refine j_icmp_lt (pc := 13) 20 ok dX7_startsItem_13 (by decide) h (fun h => ?_) (fun h => ?_)
        · refine j_iconst (pc := 20) ok dX7_startsItem_20 ?_
          refine j_lv [] rfl ?_
          exact hk3 0 h
        · refine j_lv [] rfl ?_
          exact hk2 () h
      · refine j_icmp_lt (pc := 2) 10 ok dX7_startsItem_2 (by decide) h (fun h => ?_) (fun h => ?_)
        · exact hk1 () h
        · refine j_iload_n (pc := 5) 0 ok dX7_startsItem_5 rfl rfl ?_
          refine j_iconst (pc := 6) ok dX7_startsItem_6 ?_
          refine j_icmp_le (pc := 7) 16 ok dX7_startsItem_7 (by decide) h (fun h => ?_) (fun h => ?_)
          · refine j_lv [] rfl ?_
            exact hk2 () h
          · exact hk1 () h
def f_X3_opening (x0 : Int) : Option (Int) := cLt x0 42 (jn (fun (z4 : Int) => some z4) (fun k2 => jn (fun (z3 : Unit) => cLt 10 x0 (k2 (-1)) (k2 0)) (fun k1 => cLt x0 1 (k1 ()) (cLt 5 x0 (k1 ()) (k2 1))))) (some 0)
set_option maxRecDepth 100000 in
set_option maxHeartbeats 4000000 in
theorem k_X3_opening {D : va_G} {cs : q_CS} {x0 : Int} {r : (Int)} (h : f_X3_opening x0 = some r) : q_M D cs yX3_opening cX3_opening 1 (some .int) 0 0 [.int (iI x0)] [] (some (.int (iI r))) [] := by
  refine q_start_i [(0, .int (iI x0))] RX3 rfl (by decide +kernel) rfl (Nat.le_of_ble_eq_true rfl) rfl (fun κ ok fin => ?_)
  unfold f_X3_opening at h
  refine j_iload_n (pc := 0) 0 ok dX3_opening_0 rfl rfl ?_
  refine j_bipush (pc := 1) ok dX3_opening_1 (by decide) ?_
  refine j_icmp_lt (pc := 3) 8 ok dX3_opening_3 (by decide) h (fun h => ?_) (fun h => ?_)
  · refine j_iload_n (pc := 8) 0 ok dX3_opening_8 rfl rfl ?_
    refine j_iconst (pc := 9) ok dX3_opening_9 ?_
    refine jn_use (P := fun z4 => q_J D κ 1 0 0 [] [] 33 [.int (iI z4)]) h (fun z4 h => ?_) (fun k2 hk2 h => ?_)
    · obtain rfl := Option.some.inj h
      exact fin _ 33 dX3_opening_33
    · refine jn_use (P := fun z3 => q_J D κ 1 0 0 [] [(0, .int (iI x0))] 22 []) h (fun z3 h => ?_) (fun k1 hk1 h => ?_)
      · refine j_iload_n (pc := 22) 0 ok dX3_opening_22 rfl rfl ?_
        refine j_bipush (pc := 23) ok dX3_opening_23 (by decide) ?_
        refine j_icmp_le (pc := 25) 32 ok dX3_opening_25 (by decide) h (fun h => ?_) (fun h => ?_)
        · refine j_iconst (pc := 32) ok dX3_opening_32 ?_
          refine j_lv [] rfl ?_
          exact hk2 0 h
        · refine j_iconst (pc := 28) ok dX3_opening_28 ?_
          refine j_goto (pc := 29) 33 ok dX3_opening_29 (by decide) ?_
          refine j_lv [] rfl ?_
          exact hk2 (-1) h
      · refine j_icmp_lt (pc := 10) 22 ok dX3_opening_10 (by decide) h (fun h => ?_) (fun h => ?_)
        · exact hk1 () h
        · refine j_iload_n (pc := 13) 0 ok dX3_opening_13 rfl rfl ?_
          refine j_iconst (pc := 14) ok dX3_opening_14 ?_
          refine j_icmp_gt (pc := 15) 22 ok dX3_opening_15 (by decide) h (fun h => ?_) (fun h => ?_)
          · exact hk1 () h
          · refine j_iconst (pc := 18) ok dX3_opening_18 ?_
            refine j_goto (pc := 19) 33 ok dX3_opening_19 (by decide) ?_
            refine j_lv [] rfl ?_
            exact hk2 1 h
  · refine j_iconst (pc := 6) ok dX3_opening_6 ?_
    obtain rfl := Option.some.inj h
    exact fin _ 7 dX3_opening_7
def f_X3_rowItems_8 (a0_marksN : Nat) (a0_size : Int) (a0_marksF : (Nat → Int)) (y2 : Int) (e8_54 : Int × Int × Int → Option (Int)) : Nat → Int → Int → Int → Option (Int)
  | 0, _, _, _ => none
  | n + 1, y3, y4, y5 => cLt y5 y2 (bd (f_X3_mark a0_marksN a0_size a0_marksF y5) (fun r1 => jn (fun (z4 : Int) => bd (f_X3_opening r1) (fun r5 => f_X3_rowItems_8 a0_marksN a0_size a0_marksF y2 e8_54 n z4 (y4 + r5) (y5 + 1))) (fun k2 => cEq y4 0 (bd (f_X7_startsItem r1) (fun r3 => cEq r3 0 (k2 y3) (k2 (y3 + 1)))) (k2 y3)))) (e8_54 (y3, y4, y5))
set_option maxRecDepth 100000 in
theorem l_X3_rowItems_8 {D : va_G} {cs : q_CS} {κ : q_X} {a0 a0_marks : Nat} {a0_marksN : Nat} {a0_ci : Nat} {a0_fx : List Value} {a0_size : Int} {a0_marksF : (Nat → Int)} {y2 : Int} {r : (Int)} {e8_54 : Int × Int × Int → Option (Int)} (ha0 : q_mk a0_ci a0_fx) (ok : q_ok D cs κ cX3_rowItems 7 RX3 (q_rm 1 21)) (fin : ∀ (lv : List (Nat × Value)) (pc : Nat), decode cX3_rowItems pc = .ok (.ireturn, 1) → q_J D κ 7 0 0 [(a0, .inr (a0_ci, .ref a0_marks :: .int (iI a0_size) :: a0_fx)), (a0_marks, .inl (cs.1, a0_marksN, .inl (aI a0_marksF)))] lv pc [.int (iI r)]) (he8_54 : ∀ x : Int × Int × Int, e8_54 x = some r → q_J D κ 7 0 0 [(a0, .inr (a0_ci, .ref a0_marks :: .int (iI a0_size) :: a0_fx)), (a0_marks, .inl (cs.1, a0_marksN, .inl (aI a0_marksF)))] [(3, .int (iI x.1))] 54 []) : ∀ (n : Nat) (y3 : Int) (y4 : Int) (y5 : Int), f_X3_rowItems_8 a0_marksN a0_size a0_marksF y2 e8_54 n y3 y4 y5 = some r → q_J D κ 7 0 0 [(a0, .inr (a0_ci, .ref a0_marks :: .int (iI a0_size) :: a0_fx)), (a0_marks, .inl (cs.1, a0_marksN, .inl (aI a0_marksF)))] [(0, .ref a0), (2, .int (iI y2)), (3, .int (iI y3)), (4, .int (iI y4)), (5, .int (iI y5))] 8 [] := by
  intro n
  induction n with
  | zero =>
    intro y3 y4 y5 h
    exact absurd h (by unfold f_X3_rowItems_8; exact fun z => by cases z)
  | succ n ih =>
    intro y3 y4 y5 h
    unfold f_X3_rowItems_8 at h
    refine j_iload (pc := 8) 4 ok dX3_rowItems_8 rfl ?_
    refine j_iload_n (pc := 10) 1 ok dX3_rowItems_10 rfl rfl ?_
    refine j_icmp_ge (pc := 11) 54 ok dX3_rowItems_11 (by decide) h (fun h => ?_) (fun h => ?_)
    · refine j_lv [2] rfl ?_
      exact he8_54 (y3, y4, y5) h
    · refine j_aload_n (pc := 14) 0 ok dX3_rowItems_14 rfl rfl ?_
      refine j_iload (pc := 15) 4 ok dX3_rowItems_15 rfl ?_
      obtain ⟨r1, hr1, h⟩ := bd_inv h
      refine j_callM (pc := 17) ok ha0 (k_X3_mark (a0 := a0) (a0_marks := a0_marks) (a0_ci := a0_ci) (a0_fx := a0_fx) (a0_marksN := a0_marksN) (a0_size := a0_size) (a0_marksF := a0_marksF) (x1 := y5) ha0 hr1) gU_X3_31 rfl hd_X3_mark gV_X3_31 ⟨rfl, hd_X3_mark⟩ [0, 1] (by decide) rfl rfl 0 rfl rfl rfl ⟨Nat.zero_le _, Nat.zero_le _⟩ (Nat.le_of_ble_eq_true rfl) dX3_rowItems_17 rfl [(a0, .inr (a0_ci, .ref a0_marks :: .int (iI a0_size) :: a0_fx)), (a0_marks, .inl (cs.1, a0_marksN, .inl (aI a0_marksF)))] rfl ?_
      refine j_istore (pc := 20) (lv' := [(6, .int (iI r1)), (0, .ref a0), (2, .int (iI y2)), (3, .int (iI y3)), (4, .int (iI y4)), (5, .int (iI y5))]) ok dX3_rowItems_20 (by decide) rfl ?_
      refine j_iload (pc := 22) 4 ok dX3_rowItems_22 rfl ?_
      refine jn_use (P := fun z4 => q_J D κ 7 0 0 [(a0, .inr (a0_ci, .ref a0_marks :: .int (iI a0_size) :: a0_fx)), (a0_marks, .inl (cs.1, a0_marksN, .inl (aI a0_marksF)))] [(0, .ref a0), (2, .int (iI y2)), (3, .int (iI z4)), (4, .int (iI y4)), (5, .int (iI y5)), (6, .int (iI r1))] 38 []) h (fun z4 h => ?_) (fun k2 hk2 h => ?_)
      · refine j_iload (pc := 38) 3 ok dX3_rowItems_38 rfl ?_
        refine j_iload (pc := 40) 5 ok dX3_rowItems_40 rfl ?_
        obtain ⟨r5, hr5, h⟩ := bd_inv h
        refine j_callS (pc := 42) ok (k_X3_opening (x0 := r1) hr5) gS_X3_42 hd_X3_opening [] (by decide) rfl rfl rfl rfl ⟨Nat.zero_le _, Nat.zero_le _⟩ (Nat.le_of_ble_eq_true rfl) dX3_rowItems_42 rfl [(a0, .inr (a0_ci, .ref a0_marks :: .int (iI a0_size) :: a0_fx)), (a0_marks, .inl (cs.1, a0_marksN, .inl (aI a0_marksF)))] rfl ?_
        refine j_iadd (pc := 45) ok dX3_rowItems_45 ?_
        refine j_istore (pc := 46) (lv' := [(4, .int (iI (y4 + r5))), (0, .ref a0), (2, .int (iI y2)), (3, .int (iI z4)), (5, .int (iI y5)), (6, .int (iI r1))]) ok dX3_rowItems_46 (by decide) rfl ?_
        refine j_iinc (pc := 48) (lv' := [(5, .int (iI (y5 + 1))), (4, .int (iI (y4 + r5))), (0, .ref a0), (2, .int (iI y2)), (3, .int (iI z4)), (6, .int (iI r1))]) 4 ok dX3_rowItems_48 rfl (by decide) rfl ?_
        refine j_goto (pc := 51) 8 ok dX3_rowItems_51 (by decide) ?_
        refine j_lv [2, 3, 4, 1, 0] rfl ?_
        exact ih _ _ _ h
      · refine j_if_ne (pc := 24) 38 ok dX3_rowItems_24 (by decide) h (fun h => ?_) (fun h => ?_)
        · refine j_lv [1, 2, 3, 4, 5, 0] rfl ?_
          exact hk2 y3 h
        · refine j_iload (pc := 27) 0 ok dX3_rowItems_27 rfl ?_
          obtain ⟨r3, hr3, h⟩ := bd_inv h
          refine j_callN (pc := 29) ok (k_X7_startsItem (x0 := r1) hr3) gN_X3_35 gNw_X3_35 gNi_X3_35 gNs_X3_35 hd_X7_startsItem [] (by decide) rfl rfl rfl rfl ⟨Nat.zero_le _, Nat.zero_le _⟩ (Nat.le_of_ble_eq_true rfl) dX3_rowItems_29 rfl [(a0, .inr (a0_ci, .ref a0_marks :: .int (iI a0_size) :: a0_fx)), (a0_marks, .inl (cs.1, a0_marksN, .inl (aI a0_marksF)))] rfl ?_
          refine j_if_eq (pc := 32) 38 ok dX3_rowItems_32 (by decide) h (fun h => ?_) (fun h => ?_)
          · refine j_lv [1, 2, 3, 4, 5, 0] rfl ?_
            exact hk2 y3 h
          · refine j_iinc (pc := 35) (lv' := [(3, .int (iI (y3 + 1))), (6, .int (iI r1)), (0, .ref a0), (2, .int (iI y2)), (4, .int (iI y4)), (5, .int (iI y5))]) 3 ok dX3_rowItems_35 rfl (by decide) rfl ?_
            refine j_lv [2, 3, 0, 4, 5, 1] rfl ?_
            exact hk2 (y3 + 1) h
def f_X3_rowItems (a0_marksN : Nat) (a0_size : Int) (a0_marksF : (Nat → Int)) (x1 : Int) (x2 : Int) : Option (Int) := f_X3_rowItems_8 a0_marksN a0_size a0_marksF x2 (fun (z6 : Int × Int × Int) => some z6.1) fuel 0 0 x1
set_option maxRecDepth 100000 in
set_option maxHeartbeats 4000000 in
theorem k_X3_rowItems {D : va_G} {cs : q_CS} {a0 a0_marks : Nat} {a0_marksN : Nat} {a0_ci : Nat} {a0_fx : List Value} {a0_size : Int} {a0_marksF : (Nat → Int)} {x1 x2 : Int} {r : (Int)} (ha0 : q_mk a0_ci a0_fx) (h : f_X3_rowItems a0_marksN a0_size a0_marksF x1 x2 = some r) : q_M D cs yX3_rowItems cX3_rowItems 7 (some .int) 1 21 [.ref a0, .int (iI x1), .int (iI x2)] [(a0, .inr (a0_ci, .ref a0_marks :: .int (iI a0_size) :: a0_fx)), (a0_marks, .inl (cs.1, a0_marksN, .inl (aI a0_marksF)))] (some (.int (iI r))) [(a0, .inr (a0_ci, .ref a0_marks :: .int (iI a0_size) :: a0_fx)), (a0_marks, .inl (cs.1, a0_marksN, .inl (aI a0_marksF)))] := by
  refine q_start_i [(0, .ref a0), (1, .int (iI x1)), (2, .int (iI x2))] RX3 rfl (by decide +kernel) rfl (Nat.le_of_ble_eq_true rfl) rfl (fun κ ok fin => ?_)
  unfold f_X3_rowItems at h
  refine j_iconst (pc := 0) ok dX3_rowItems_0 ?_
  refine j_istore_n (pc := 1) (lv' := [(3, .int (iI 0)), (0, .ref a0), (1, .int (iI x1)), (2, .int (iI x2))]) ok dX3_rowItems_1 rfl (by decide) rfl ?_
  refine j_iconst (pc := 2) ok dX3_rowItems_2 ?_
  refine j_istore (pc := 3) (lv' := [(4, .int (iI 0)), (3, .int (iI 0)), (0, .ref a0), (1, .int (iI x1)), (2, .int (iI x2))]) ok dX3_rowItems_3 (by decide) rfl ?_
  refine j_iload_n (pc := 5) 3 ok dX3_rowItems_5 rfl rfl ?_
  refine j_istore (pc := 6) (lv' := [(5, .int (iI x1)), (4, .int (iI 0)), (3, .int (iI 0)), (0, .ref a0), (1, .int (iI x1)), (2, .int (iI x2))]) ok dX3_rowItems_6 (by decide) rfl ?_
  refine j_lv [3, 5, 2, 1, 0] rfl ?_
  refine l_X3_rowItems_8 ha0 ok fin (fun z6 h => ?_) fuel _ _ _ h
  · refine j_iload_n (pc := 54) 0 ok dX3_rowItems_54 rfl rfl ?_
    obtain rfl := Option.some.inj h
    exact fin _ 55 dX3_rowItems_55
def f_X0_selectedOfRow (a0_size : Int) (a0_caret : Int) (a0_from : Int) (a0_marksF : (Nat → Int)) : Option (Int) := bd (f_X3_rowItems 180 a0_size a0_marksF a0_from a0_caret) (fun r1 => some r1)
set_option maxRecDepth 100000 in
set_option maxHeartbeats 4000000 in
theorem k_X0_selectedOfRow {D : va_G} {cs : q_CS} {a0 a0_marks : Nat} {a0_size a0_caret a0_from : Int} {a0_marksF : (Nat → Int)} {r : (Int)} (h : f_X0_selectedOfRow a0_size a0_caret a0_from a0_marksF = some r) : q_M D cs yX0_selectedOfRow cX0_selectedOfRow 1 (some .int) 2 47 [.ref a0] [(a0, .inr (0, [.ref a0_marks, .int (iI a0_size), .int (iI a0_caret), .int (iI a0_from)])), (a0_marks, .inl (cs.1, 180, .inl (aI a0_marksF)))] (some (.int (iI r))) [(a0, .inr (0, [.ref a0_marks, .int (iI a0_size), .int (iI a0_caret), .int (iI a0_from)])), (a0_marks, .inl (cs.1, 180, .inl (aI a0_marksF)))] := by
  refine q_start_i [(0, .ref a0)] RX0 rfl (by decide +kernel) rfl (Nat.le_of_ble_eq_true rfl) rfl (fun κ ok fin => ?_)
  unfold f_X0_selectedOfRow at h
  refine j_aload_n (pc := 0) 0 ok dX0_selectedOfRow_0 rfl rfl ?_
  refine j_aload_n (pc := 1) 0 ok dX0_selectedOfRow_1 rfl rfl ?_
  refine gf_X0_22_0 (pc := 2) 0 ok rfl dX0_selectedOfRow_2 ?_
  refine j_aload_n (pc := 5) 0 ok dX0_selectedOfRow_5 rfl rfl ?_
  refine gf_X0_19_0 (pc := 6) 0 ok rfl dX0_selectedOfRow_6 ?_
  obtain ⟨r1, hr1, h⟩ := bd_inv h
  refine j_callU (pc := 9) ok (k_X3_rowItems (a0 := a0) (a0_marks := a0_marks) (a0_ci := 0) (a0_fx := [.int (iI a0_caret), .int (iI a0_from)]) (a0_marksN := 180) (a0_size := a0_size) (a0_marksF := a0_marksF) (x1 := a0_from) (x2 := a0_caret) (q_mk0 _ _) hr1) gU_X0_25 rfl hd_X3_rowItems [0, 1] (by decide) rfl rfl 0 rfl rfl rfl rfl ⟨Nat.zero_le _, Nat.zero_le _⟩ (Nat.le_of_ble_eq_true rfl) dX0_selectedOfRow_9 rfl [(a0, .inr (0, [.ref a0_marks, .int (iI a0_size), .int (iI a0_caret), .int (iI a0_from)])), (a0_marks, .inl (cs.1, 180, .inl (aI a0_marksF)))] rfl ?_
  obtain rfl := Option.some.inj h
  exact fin _ 12 dX0_selectedOfRow_12
def f_X3_countItems_5 (a0_marksN : Nat) (a0_size : Int) (a0_marksF : (Nat → Int)) (y2 : Int) (e5_32 : Int × Int → Option (Int)) : Nat → Int → Int → Option (Int)
  | 0, _, _ => none
  | n + 1, y3, y4 => cLt y4 y2 (bd (f_X3_mark a0_marksN a0_size a0_marksF y4) (fun r1 => bd (f_X7_startsItem r1) (fun r2 => jn (fun (z4 : Int) => f_X3_countItems_5 a0_marksN a0_size a0_marksF y2 e5_32 n z4 (y4 + 1)) (fun k3 => cEq r2 0 (k3 y3) (k3 (y3 + 1)))))) (e5_32 (y3, y4))
set_option maxRecDepth 100000 in
theorem l_X3_countItems_5 {D : va_G} {cs : q_CS} {κ : q_X} {a0 a0_marks : Nat} {a0_marksN : Nat} {a0_ci : Nat} {a0_fx : List Value} {a0_size : Int} {a0_marksF : (Nat → Int)} {y2 : Int} {r : (Int)} {e5_32 : Int × Int → Option (Int)} (ha0 : q_mk a0_ci a0_fx) (ok : q_ok D cs κ cX3_countItems 5 RX3 (q_rm 1 21)) (fin : ∀ (lv : List (Nat × Value)) (pc : Nat), decode cX3_countItems pc = .ok (.ireturn, 1) → q_J D κ 5 0 0 [(a0, .inr (a0_ci, .ref a0_marks :: .int (iI a0_size) :: a0_fx)), (a0_marks, .inl (cs.1, a0_marksN, .inl (aI a0_marksF)))] lv pc [.int (iI r)]) (he5_32 : ∀ x : Int × Int, e5_32 x = some r → q_J D κ 5 0 0 [(a0, .inr (a0_ci, .ref a0_marks :: .int (iI a0_size) :: a0_fx)), (a0_marks, .inl (cs.1, a0_marksN, .inl (aI a0_marksF)))] [(3, .int (iI x.1))] 32 []) : ∀ (n : Nat) (y3 : Int) (y4 : Int), f_X3_countItems_5 a0_marksN a0_size a0_marksF y2 e5_32 n y3 y4 = some r → q_J D κ 5 0 0 [(a0, .inr (a0_ci, .ref a0_marks :: .int (iI a0_size) :: a0_fx)), (a0_marks, .inl (cs.1, a0_marksN, .inl (aI a0_marksF)))] [(0, .ref a0), (2, .int (iI y2)), (3, .int (iI y3)), (4, .int (iI y4))] 5 [] := by
  intro n
  induction n with
  | zero =>
    intro y3 y4 h
    exact absurd h (by unfold f_X3_countItems_5; exact fun z => by cases z)
  | succ n ih =>
    intro y3 y4 h
    unfold f_X3_countItems_5 at h
    refine j_iload (pc := 5) 3 ok dX3_countItems_5 rfl ?_
    refine j_iload_n (pc := 7) 1 ok dX3_countItems_7 rfl rfl ?_
    refine j_icmp_ge (pc := 8) 32 ok dX3_countItems_8 (by decide) h (fun h => ?_) (fun h => ?_)
    · refine j_lv [2] rfl ?_
      exact he5_32 (y3, y4) h
    · refine j_aload_n (pc := 11) 0 ok dX3_countItems_11 rfl rfl ?_
      refine j_iload (pc := 12) 3 ok dX3_countItems_12 rfl ?_
      obtain ⟨r1, hr1, h⟩ := bd_inv h
      refine j_callM (pc := 14) ok ha0 (k_X3_mark (a0 := a0) (a0_marks := a0_marks) (a0_ci := a0_ci) (a0_fx := a0_fx) (a0_marksN := a0_marksN) (a0_size := a0_size) (a0_marksF := a0_marksF) (x1 := y4) ha0 hr1) gU_X3_31 rfl hd_X3_mark gV_X3_31 ⟨rfl, hd_X3_mark⟩ [0, 1] (by decide) rfl rfl 0 rfl rfl rfl ⟨Nat.zero_le _, Nat.zero_le _⟩ (Nat.le_of_ble_eq_true rfl) dX3_countItems_14 rfl [(a0, .inr (a0_ci, .ref a0_marks :: .int (iI a0_size) :: a0_fx)), (a0_marks, .inl (cs.1, a0_marksN, .inl (aI a0_marksF)))] rfl ?_
      obtain ⟨r2, hr2, h⟩ := bd_inv h
      refine j_callN (pc := 17) ok (k_X7_startsItem (x0 := r1) hr2) gN_X3_35 gNw_X3_35 gNi_X3_35 gNs_X3_35 hd_X7_startsItem [] (by decide) rfl rfl rfl rfl ⟨Nat.zero_le _, Nat.zero_le _⟩ (Nat.le_of_ble_eq_true rfl) dX3_countItems_17 rfl [(a0, .inr (a0_ci, .ref a0_marks :: .int (iI a0_size) :: a0_fx)), (a0_marks, .inl (cs.1, a0_marksN, .inl (aI a0_marksF)))] rfl ?_
      refine jn_use (P := fun z4 => q_J D κ 5 0 0 [(a0, .inr (a0_ci, .ref a0_marks :: .int (iI a0_size) :: a0_fx)), (a0_marks, .inl (cs.1, a0_marksN, .inl (aI a0_marksF)))] [(0, .ref a0), (2, .int (iI y2)), (3, .int (iI z4)), (4, .int (iI y4))] 26 []) h (fun z4 h => ?_) (fun k3 hk3 h => ?_)
      · refine j_iinc (pc := 26) (lv' := [(4, .int (iI (y4 + 1))), (0, .ref a0), (2, .int (iI y2)), (3, .int (iI z4))]) 3 ok dX3_countItems_26 rfl (by decide) rfl ?_
        refine j_goto (pc := 29) 5 ok dX3_countItems_29 (by decide) ?_
        refine j_lv [1, 2, 3, 0] rfl ?_
        exact ih _ _ h
      · refine j_if_eq (pc := 20) 26 ok dX3_countItems_20 (by decide) h (fun h => ?_) (fun h => ?_)
        · exact hk3 y3 h
        · refine j_iinc (pc := 23) (lv' := [(3, .int (iI (y3 + 1))), (0, .ref a0), (2, .int (iI y2)), (4, .int (iI y4))]) 2 ok dX3_countItems_23 rfl (by decide) rfl ?_
          refine j_lv [1, 2, 0, 3] rfl ?_
          exact hk3 (y3 + 1) h
def f_X3_countItems (a0_marksN : Nat) (a0_size : Int) (a0_marksF : (Nat → Int)) (x1 : Int) (x2 : Int) : Option (Int) := f_X3_countItems_5 a0_marksN a0_size a0_marksF x2 (fun (z5 : Int × Int) => some z5.1) fuel 0 x1
set_option maxRecDepth 100000 in
set_option maxHeartbeats 4000000 in
theorem k_X3_countItems {D : va_G} {cs : q_CS} {a0 a0_marks : Nat} {a0_marksN : Nat} {a0_ci : Nat} {a0_fx : List Value} {a0_size : Int} {a0_marksF : (Nat → Int)} {x1 x2 : Int} {r : (Int)} (ha0 : q_mk a0_ci a0_fx) (h : f_X3_countItems a0_marksN a0_size a0_marksF x1 x2 = some r) : q_M D cs yX3_countItems cX3_countItems 5 (some .int) 1 21 [.ref a0, .int (iI x1), .int (iI x2)] [(a0, .inr (a0_ci, .ref a0_marks :: .int (iI a0_size) :: a0_fx)), (a0_marks, .inl (cs.1, a0_marksN, .inl (aI a0_marksF)))] (some (.int (iI r))) [(a0, .inr (a0_ci, .ref a0_marks :: .int (iI a0_size) :: a0_fx)), (a0_marks, .inl (cs.1, a0_marksN, .inl (aI a0_marksF)))] := by
  refine q_start_i [(0, .ref a0), (1, .int (iI x1)), (2, .int (iI x2))] RX3 rfl (by decide +kernel) rfl (Nat.le_of_ble_eq_true rfl) rfl (fun κ ok fin => ?_)
  unfold f_X3_countItems at h
  refine j_iconst (pc := 0) ok dX3_countItems_0 ?_
  refine j_istore_n (pc := 1) (lv' := [(3, .int (iI 0)), (0, .ref a0), (1, .int (iI x1)), (2, .int (iI x2))]) ok dX3_countItems_1 rfl (by decide) rfl ?_
  refine j_iload_n (pc := 2) 2 ok dX3_countItems_2 rfl rfl ?_
  refine j_istore (pc := 3) (lv' := [(4, .int (iI x1)), (3, .int (iI 0)), (0, .ref a0), (1, .int (iI x1)), (2, .int (iI x2))]) ok dX3_countItems_3 (by decide) rfl ?_
  refine j_lv [2, 4, 1, 0] rfl ?_
  refine l_X3_countItems_5 ha0 ok fin (fun z5 h => ?_) fuel _ _ h
  · refine j_iload_n (pc := 32) 0 ok dX3_countItems_32 rfl rfl ?_
    obtain rfl := Option.some.inj h
    exact fin _ 33 dX3_countItems_33
def f_X0_selectedInAll (a0_size : Int) (a0_caret : Int) (a0_from : Int) (a0_marksF : (Nat → Int)) : Option (Int) := bd (f_X3_countItems 180 a0_size a0_marksF a0_from a0_caret) (fun r1 => some r1)
set_option maxRecDepth 100000 in
set_option maxHeartbeats 4000000 in
theorem k_X0_selectedInAll {D : va_G} {cs : q_CS} {a0 a0_marks : Nat} {a0_size a0_caret a0_from : Int} {a0_marksF : (Nat → Int)} {r : (Int)} (h : f_X0_selectedInAll a0_size a0_caret a0_from a0_marksF = some r) : q_M D cs yX0_selectedInAll cX0_selectedInAll 1 (some .int) 2 45 [.ref a0] [(a0, .inr (0, [.ref a0_marks, .int (iI a0_size), .int (iI a0_caret), .int (iI a0_from)])), (a0_marks, .inl (cs.1, 180, .inl (aI a0_marksF)))] (some (.int (iI r))) [(a0, .inr (0, [.ref a0_marks, .int (iI a0_size), .int (iI a0_caret), .int (iI a0_from)])), (a0_marks, .inl (cs.1, 180, .inl (aI a0_marksF)))] := by
  refine q_start_i [(0, .ref a0)] RX0 rfl (by decide +kernel) rfl (Nat.le_of_ble_eq_true rfl) rfl (fun κ ok fin => ?_)
  unfold f_X0_selectedInAll at h
  refine j_aload_n (pc := 0) 0 ok dX0_selectedInAll_0 rfl rfl ?_
  refine j_aload_n (pc := 1) 0 ok dX0_selectedInAll_1 rfl rfl ?_
  refine gf_X0_22_0 (pc := 2) 0 ok rfl dX0_selectedInAll_2 ?_
  refine j_aload_n (pc := 5) 0 ok dX0_selectedInAll_5 rfl rfl ?_
  refine gf_X0_19_0 (pc := 6) 0 ok rfl dX0_selectedInAll_6 ?_
  obtain ⟨r1, hr1, h⟩ := bd_inv h
  refine j_callU (pc := 9) ok (k_X3_countItems (a0 := a0) (a0_marks := a0_marks) (a0_ci := 0) (a0_fx := [.int (iI a0_caret), .int (iI a0_from)]) (a0_marksN := 180) (a0_size := a0_size) (a0_marksF := a0_marksF) (x1 := a0_from) (x2 := a0_caret) (q_mk0 _ _) hr1) gU_X0_29 rfl hd_X3_countItems [0, 1] (by decide) rfl rfl 0 rfl rfl rfl rfl ⟨Nat.zero_le _, Nat.zero_le _⟩ (Nat.le_of_ble_eq_true rfl) dX0_selectedInAll_9 rfl [(a0, .inr (0, [.ref a0_marks, .int (iI a0_size), .int (iI a0_caret), .int (iI a0_from)])), (a0_marks, .inl (cs.1, 180, .inl (aI a0_marksF)))] rfl ?_
  obtain rfl := Option.some.inj h
  exact fin _ 12 dX0_selectedInAll_12
def f_X0_putCaret (a0_caret : Int) (a0_from : Int) (x1 : Int) : Option (Int × Int) := some (x1, x1)
set_option maxRecDepth 100000 in
set_option maxHeartbeats 4000000 in
theorem k_X0_putCaret {D : va_G} {cs : q_CS} {a0 a0_marks : Nat} {a0_size a0_caret a0_from : Int} {x1 : Int} {r : (Int × Int)} (h : f_X0_putCaret a0_caret a0_from x1 = some r) : q_M D cs yX0_putCaret cX0_putCaret 2 none 0 0 [.ref a0, .int (iI x1)] [(a0, .inr (0, [.ref a0_marks, .int (iI a0_size), .int (iI a0_caret), .int (iI a0_from)]))] none [(a0, .inr (0, [.ref a0_marks, .int (iI a0_size), .int (iI r.1), .int (iI r.2)]))] := by
  refine q_start_v [(0, .ref a0), (1, .int (iI x1))] RX0 rfl (by decide +kernel) rfl (Nat.le_of_ble_eq_true rfl) (fun κ ok fin => ?_)
  unfold f_X0_putCaret at h
  refine j_aload_n (pc := 0) 0 ok dX0_putCaret_0 rfl rfl ?_
  refine j_iload_n (pc := 1) 1 ok dX0_putCaret_1 rfl rfl ?_
  refine pf_X0_19_0 (pc := 2) 0 ok rfl dX0_putCaret_2 [(a0, .inr (0, [.ref a0_marks, .int (iI a0_size), .int (iI x1), .int (iI a0_from)]))] rfl ?_
  refine j_aload_n (pc := 5) 0 ok dX0_putCaret_5 rfl rfl ?_
  refine j_iload_n (pc := 6) 1 ok dX0_putCaret_6 rfl rfl ?_
  refine pf_X0_22_0 (pc := 7) 0 ok rfl dX0_putCaret_7 [(a0, .inr (0, [.ref a0_marks, .int (iI a0_size), .int (iI x1), .int (iI x1)]))] rfl ?_
  obtain rfl := Option.some.inj h
  exact fin _ 10 dX0_putCaret_10
def f_X0_shiftCaret (a0_size : Int) (a0_caret : Int) (a0_from : Int) (x1 : Int) : Option (Int × Int) := gR a0_size (gR (a0_caret + x1) (gR 0 (gR (mnI a0_size (a0_caret + x1)) (bd (f_X0_putCaret a0_caret a0_from (mxI 0 (mnI a0_size (a0_caret + x1)))) (fun r1 => some (r1.1, r1.2))))))
set_option maxRecDepth 100000 in
set_option maxHeartbeats 4000000 in
theorem k_X0_shiftCaret {D : va_G} {cs : q_CS} {a0 a0_marks : Nat} {a0_size a0_caret a0_from : Int} {x1 : Int} {r : (Int × Int)} (h : f_X0_shiftCaret a0_size a0_caret a0_from x1 = some r) : q_M D cs yX0_shiftCaret cX0_shiftCaret 2 none 1 21 [.ref a0, .int (iI x1)] [(a0, .inr (0, [.ref a0_marks, .int (iI a0_size), .int (iI a0_caret), .int (iI a0_from)]))] none [(a0, .inr (0, [.ref a0_marks, .int (iI a0_size), .int (iI r.1), .int (iI r.2)]))] := by
  refine q_start_v [(0, .ref a0), (1, .int (iI x1))] RX0 rfl (by decide +kernel) rfl (Nat.le_of_ble_eq_true rfl) (fun κ ok fin => ?_)
  unfold f_X0_shiftCaret at h
  refine j_aload_n (pc := 0) 0 ok dX0_shiftCaret_0 rfl rfl ?_
  refine j_iconst (pc := 1) ok dX0_shiftCaret_1 ?_
  refine j_aload_n (pc := 2) 0 ok dX0_shiftCaret_2 rfl rfl ?_
  refine gf_X0_9_0 (pc := 3) 0 ok rfl dX0_shiftCaret_3 ?_
  refine j_aload_n (pc := 6) 0 ok dX0_shiftCaret_6 rfl rfl ?_
  refine gf_X0_19_0 (pc := 7) 0 ok rfl dX0_shiftCaret_7 ?_
  refine j_iload_n (pc := 10) 1 ok dX0_shiftCaret_10 rfl rfl ?_
  refine j_iadd (pc := 11) ok dX0_shiftCaret_11 ?_
  refine j_minw (pc := 12) ok (q_in 968 (by decide +kernel) (by decide +kernel)) (q_in 969 (by decide +kernel) (by decide +kernel)) (q_in 49 (by decide +kernel) (by decide +kernel)) (q_in 970 (by decide +kernel) (by decide +kernel)) (by decide) (Nat.le_of_ble_eq_true rfl) (Nat.zero_le _) (Nat.zero_le _) dX0_shiftCaret_12 h (fun h => ?_)
  refine j_maxw (pc := 15) ok (q_in 971 (by decide +kernel) (by decide +kernel)) (q_in 80 (by decide +kernel) (by decide +kernel)) (q_in 49 (by decide +kernel) (by decide +kernel)) (q_in 81 (by decide +kernel) (by decide +kernel)) (by decide) (Nat.le_of_ble_eq_true rfl) (Nat.zero_le _) (Nat.zero_le _) dX0_shiftCaret_15 h (fun h => ?_)
  obtain ⟨r1, hr1, h⟩ := bd_inv h
  refine j_callV (pc := 18) ok (k_X0_putCaret (a0 := a0) (a0_marks := a0_marks) (a0_size := a0_size) (a0_caret := a0_caret) (a0_from := a0_from) (x1 := mxI 0 (mnI a0_size (a0_caret + x1))) hr1) gV_X0_40 ⟨rfl, hd_X0_putCaret⟩ [0] (by decide) rfl rfl 0 rfl rfl rfl rfl ⟨Nat.zero_le _, Nat.zero_le _⟩ (Nat.le_of_ble_eq_true rfl) dX0_shiftCaret_18 rfl [(a0, .inr (0, [.ref a0_marks, .int (iI a0_size), .int (iI r1.1), .int (iI r1.2)]))] rfl ?_
  obtain rfl := Option.some.inj h
  exact fin _ 21 dX0_shiftCaret_21
def f_X0_chooseItems (a0_caret : Int) (a0_from : Int) (x1 : Int) (x2 : Int) : Option (Int × Int) := some (x2, x1)
set_option maxRecDepth 100000 in
set_option maxHeartbeats 4000000 in
theorem k_X0_chooseItems {D : va_G} {cs : q_CS} {a0 a0_marks : Nat} {a0_size a0_caret a0_from : Int} {x1 x2 : Int} {r : (Int × Int)} (h : f_X0_chooseItems a0_caret a0_from x1 x2 = some r) : q_M D cs yX0_chooseItems cX0_chooseItems 3 none 0 0 [.ref a0, .int (iI x1), .int (iI x2)] [(a0, .inr (0, [.ref a0_marks, .int (iI a0_size), .int (iI a0_caret), .int (iI a0_from)]))] none [(a0, .inr (0, [.ref a0_marks, .int (iI a0_size), .int (iI r.1), .int (iI r.2)]))] := by
  refine q_start_v [(0, .ref a0), (1, .int (iI x1)), (2, .int (iI x2))] RX0 rfl (by decide +kernel) rfl (Nat.le_of_ble_eq_true rfl) (fun κ ok fin => ?_)
  unfold f_X0_chooseItems at h
  refine j_aload_n (pc := 0) 0 ok dX0_chooseItems_0 rfl rfl ?_
  refine j_iload_n (pc := 1) 1 ok dX0_chooseItems_1 rfl rfl ?_
  refine pf_X0_22_0 (pc := 2) 0 ok rfl dX0_chooseItems_2 [(a0, .inr (0, [.ref a0_marks, .int (iI a0_size), .int (iI a0_caret), .int (iI x1)]))] rfl ?_
  refine j_aload_n (pc := 5) 0 ok dX0_chooseItems_5 rfl rfl ?_
  refine j_iload_n (pc := 6) 2 ok dX0_chooseItems_6 rfl rfl ?_
  refine pf_X0_19_0 (pc := 7) 0 ok rfl dX0_chooseItems_7 [(a0, .inr (0, [.ref a0_marks, .int (iI a0_size), .int (iI x2), .int (iI x1)]))] rfl ?_
  obtain rfl := Option.some.inj h
  exact fin _ 10 dX0_chooseItems_10
def f_X7_endsItem (x0 : Int) : Option (Int) := jn (fun (z2 : Int) => gB z2 (some z2)) (fun k1 => cLt 10 x0 (k1 1) (k1 0))
set_option maxRecDepth 100000 in
set_option maxHeartbeats 4000000 in
theorem k_X7_endsItem {D : va_G} {cs : q_CS} {x0 : Int} {r : (Int)} (h : f_X7_endsItem x0 = some r) : q_M D cs yX7_endsItem cX7_endsItem 1 (some .boolean) 0 0 [.int (iI x0)] [] (some (.int (iI r))) [] := by
  refine q_start_z [(0, .int (iI x0))] RX7 rfl (by decide +kernel) rfl (Nat.le_of_ble_eq_true rfl) (fun κ ok fin => ?_)
  unfold f_X7_endsItem at h
  refine j_iload_n (pc := 0) 0 ok dX7_endsItem_0 rfl rfl ?_
  refine j_bipush (pc := 1) ok dX7_endsItem_1 (by decide) ?_
  refine jn_use (P := fun z2 => q_J D κ 1 0 0 [] [] 11 [.int (iI z2)]) h (fun z2 h => ?_) (fun k1 hk1 h => ?_)
  · obtain ⟨hbo, h⟩ := gB_inv h
    obtain rfl := Option.some.inj h
    exact fin _ 11 hbo dX7_endsItem_11
  · refine j_icmp_le (pc := 3) 10 ok dX7_endsItem_3 (by decide) h (fun h => ?_) (fun h => ?_)
    · refine j_iconst (pc := 10) ok dX7_endsItem_10 ?_
      refine j_lv [] rfl ?_
      exact hk1 0 h
    · refine j_iconst (pc := 6) ok dX7_endsItem_6 ?_
      refine j_goto (pc := 7) 11 ok dX7_endsItem_7 (by decide) ?_
      refine j_lv [] rfl ?_
      exact hk1 1 h
def f_X3_isBehindItem (a0_marksN : Nat) (a0_size : Int) (a0_marksF : (Nat → Int)) (x1 : Int) : Option (Int) := bd (f_X3_mark a0_marksN a0_size a0_marksF (x1 - 1)) (fun r1 => bd (f_X7_endsItem r1) (fun r2 => gB r2 (some r2)))
set_option maxRecDepth 100000 in
set_option maxHeartbeats 4000000 in
theorem k_X3_isBehindItem {D : va_G} {cs : q_CS} {a0 a0_marks : Nat} {a0_marksN : Nat} {a0_ci : Nat} {a0_fx : List Value} {a0_size : Int} {a0_marksF : (Nat → Int)} {x1 : Int} {r : (Int)} (ha0 : q_mk a0_ci a0_fx) (h : f_X3_isBehindItem a0_marksN a0_size a0_marksF x1 = some r) : q_M D cs yX3_isBehindItem cX3_isBehindItem 2 (some .boolean) 1 21 [.ref a0, .int (iI x1)] [(a0, .inr (a0_ci, .ref a0_marks :: .int (iI a0_size) :: a0_fx)), (a0_marks, .inl (cs.1, a0_marksN, .inl (aI a0_marksF)))] (some (.int (iI r))) [(a0, .inr (a0_ci, .ref a0_marks :: .int (iI a0_size) :: a0_fx)), (a0_marks, .inl (cs.1, a0_marksN, .inl (aI a0_marksF)))] := by
  refine q_start_z [(0, .ref a0), (1, .int (iI x1))] RX3 rfl (by decide +kernel) rfl (Nat.le_of_ble_eq_true rfl) (fun κ ok fin => ?_)
  unfold f_X3_isBehindItem at h
  refine j_aload_n (pc := 0) 0 ok dX3_isBehindItem_0 rfl rfl ?_
  refine j_iload_n (pc := 1) 1 ok dX3_isBehindItem_1 rfl rfl ?_
  refine j_iconst (pc := 2) ok dX3_isBehindItem_2 ?_
  refine j_isub (pc := 3) ok dX3_isBehindItem_3 ?_
  obtain ⟨r1, hr1, h⟩ := bd_inv h
  refine j_callM (pc := 4) ok ha0 (k_X3_mark (a0 := a0) (a0_marks := a0_marks) (a0_ci := a0_ci) (a0_fx := a0_fx) (a0_marksN := a0_marksN) (a0_size := a0_size) (a0_marksF := a0_marksF) (x1 := x1 - 1) ha0 hr1) gU_X3_31 rfl hd_X3_mark gV_X3_31 ⟨rfl, hd_X3_mark⟩ [0, 1] (by decide) rfl rfl 0 rfl rfl rfl ⟨Nat.zero_le _, Nat.zero_le _⟩ (Nat.le_of_ble_eq_true rfl) dX3_isBehindItem_4 rfl [(a0, .inr (a0_ci, .ref a0_marks :: .int (iI a0_size) :: a0_fx)), (a0_marks, .inl (cs.1, a0_marksN, .inl (aI a0_marksF)))] rfl ?_
  obtain ⟨r2, hr2, h⟩ := bd_inv h
  refine j_callN (pc := 7) ok (k_X7_endsItem (x0 := r1) hr2) gN_X3_51 gNw_X3_51 gNi_X3_51 gNs_X3_51 hd_X7_endsItem [] (by decide) rfl rfl rfl rfl ⟨Nat.zero_le _, Nat.zero_le _⟩ (Nat.le_of_ble_eq_true rfl) dX3_isBehindItem_7 rfl [(a0, .inr (a0_ci, .ref a0_marks :: .int (iI a0_size) :: a0_fx)), (a0_marks, .inl (cs.1, a0_marksN, .inl (aI a0_marksF)))] rfl ?_
  obtain ⟨hbo, h⟩ := gB_inv h
  obtain rfl := Option.some.inj h
  exact fin _ 10 hbo dX3_isBehindItem_10
def f_X3_itemStart_6 (a0_marksN : Nat) (a0_size : Int) (a0_marksF : (Nat → Int)) (e6_33 : Int × Int → Option (Int)) : Nat → Int → Int → Option (Int)
  | 0, _, _ => none
  | n + 1, y2, y3 => cLt y3 0 (e6_33 (y2, y3)) (bd (f_X3_mark a0_marksN a0_size a0_marksF y3) (fun r1 => bd (f_X3_opening r1) (fun r2 => cLt 0 (y2 - r2) (f_X3_itemStart_6 a0_marksN a0_size a0_marksF e6_33 n (y2 - r2) (y3 + (-1))) (some y3))))
set_option maxRecDepth 100000 in
theorem l_X3_itemStart_6 {D : va_G} {cs : q_CS} {κ : q_X} {a0 a0_marks : Nat} {a0_marksN : Nat} {a0_ci : Nat} {a0_fx : List Value} {a0_size : Int} {a0_marksF : (Nat → Int)} {r : (Int)} {e6_33 : Int × Int → Option (Int)} (ha0 : q_mk a0_ci a0_fx) (ok : q_ok D cs κ cX3_itemStart 4 RX3 (q_rm 1 21)) (fin : ∀ (lv : List (Nat × Value)) (pc : Nat), decode cX3_itemStart pc = .ok (.ireturn, 1) → q_J D κ 4 0 0 [(a0, .inr (a0_ci, .ref a0_marks :: .int (iI a0_size) :: a0_fx)), (a0_marks, .inl (cs.1, a0_marksN, .inl (aI a0_marksF)))] lv pc [.int (iI r)]) (he6_33 : ∀ x : Int × Int, e6_33 x = some r → q_J D κ 4 0 0 [(a0, .inr (a0_ci, .ref a0_marks :: .int (iI a0_size) :: a0_fx)), (a0_marks, .inl (cs.1, a0_marksN, .inl (aI a0_marksF)))] [] 33 []) : ∀ (n : Nat) (y2 : Int) (y3 : Int), f_X3_itemStart_6 a0_marksN a0_size a0_marksF e6_33 n y2 y3 = some r → q_J D κ 4 0 0 [(a0, .inr (a0_ci, .ref a0_marks :: .int (iI a0_size) :: a0_fx)), (a0_marks, .inl (cs.1, a0_marksN, .inl (aI a0_marksF)))] [(0, .ref a0), (2, .int (iI y2)), (3, .int (iI y3))] 6 [] := by
  intro n
  induction n with
  | zero =>
    intro y2 y3 h
    exact absurd h (by unfold f_X3_itemStart_6; exact fun z => by cases z)
  | succ n ih =>
    intro y2 y3 h
    unfold f_X3_itemStart_6 at h
    refine j_iload_n (pc := 6) 2 ok dX3_itemStart_6 rfl rfl ?_
    refine j_if_lt (pc := 7) 33 ok dX3_itemStart_7 (by decide) h (fun h => ?_) (fun h => ?_)
    · refine j_lv [] rfl ?_
      exact he6_33 (y2, y3) h
    · refine j_iload_n (pc := 10) 1 ok dX3_itemStart_10 rfl rfl ?_
      refine j_aload_n (pc := 11) 0 ok dX3_itemStart_11 rfl rfl ?_
      refine j_iload_n (pc := 12) 2 ok dX3_itemStart_12 rfl rfl ?_
      obtain ⟨r1, hr1, h⟩ := bd_inv h
      refine j_callM (pc := 13) ok ha0 (k_X3_mark (a0 := a0) (a0_marks := a0_marks) (a0_ci := a0_ci) (a0_fx := a0_fx) (a0_marksN := a0_marksN) (a0_size := a0_size) (a0_marksF := a0_marksF) (x1 := y3) ha0 hr1) gU_X3_31 rfl hd_X3_mark gV_X3_31 ⟨rfl, hd_X3_mark⟩ [0, 1] (by decide) rfl rfl 0 rfl rfl rfl ⟨Nat.zero_le _, Nat.zero_le _⟩ (Nat.le_of_ble_eq_true rfl) dX3_itemStart_13 rfl [(a0, .inr (a0_ci, .ref a0_marks :: .int (iI a0_size) :: a0_fx)), (a0_marks, .inl (cs.1, a0_marksN, .inl (aI a0_marksF)))] rfl ?_
      obtain ⟨r2, hr2, h⟩ := bd_inv h
      refine j_callS (pc := 16) ok (k_X3_opening (x0 := r1) hr2) gS_X3_42 hd_X3_opening [] (by decide) rfl rfl rfl rfl ⟨Nat.zero_le _, Nat.zero_le _⟩ (Nat.le_of_ble_eq_true rfl) dX3_itemStart_16 rfl [(a0, .inr (a0_ci, .ref a0_marks :: .int (iI a0_size) :: a0_fx)), (a0_marks, .inl (cs.1, a0_marksN, .inl (aI a0_marksF)))] rfl ?_
      refine j_isub (pc := 19) ok dX3_itemStart_19 ?_
      refine j_istore_n (pc := 20) (lv' := [(2, .int (iI (y2 - r2))), (0, .ref a0), (3, .int (iI y3))]) ok dX3_itemStart_20 rfl (by decide) rfl ?_
      refine j_iload_n (pc := 21) 0 ok dX3_itemStart_21 rfl rfl ?_
      refine j_if_gt (pc := 22) 27 ok dX3_itemStart_22 (by decide) h (fun h => ?_) (fun h => ?_)
      · refine j_iinc (pc := 27) (lv' := [(3, .int (iI (y3 + (-1)))), (2, .int (iI (y2 - r2))), (0, .ref a0)]) 2 ok dX3_itemStart_27 rfl (by decide) rfl ?_
        refine j_goto (pc := 30) 6 ok dX3_itemStart_30 (by decide) ?_
        refine j_lv [2, 1, 0] rfl ?_
        exact ih _ _ h
      · refine j_iload_n (pc := 25) 2 ok dX3_itemStart_25 rfl rfl ?_
        obtain rfl := Option.some.inj h
        exact fin _ 26 dX3_itemStart_26
def f_X3_itemStart (a0_marksN : Nat) (a0_size : Int) (a0_marksF : (Nat → Int)) (x1 : Int) : Option (Int) := f_X3_itemStart_6 a0_marksN a0_size a0_marksF (fun (z3 : Int × Int) => some 0) fuel 0 (x1 - 1)
set_option maxRecDepth 100000 in
set_option maxHeartbeats 4000000 in
theorem k_X3_itemStart {D : va_G} {cs : q_CS} {a0 a0_marks : Nat} {a0_marksN : Nat} {a0_ci : Nat} {a0_fx : List Value} {a0_size : Int} {a0_marksF : (Nat → Int)} {x1 : Int} {r : (Int)} (ha0 : q_mk a0_ci a0_fx) (h : f_X3_itemStart a0_marksN a0_size a0_marksF x1 = some r) : q_M D cs yX3_itemStart cX3_itemStart 4 (some .int) 1 21 [.ref a0, .int (iI x1)] [(a0, .inr (a0_ci, .ref a0_marks :: .int (iI a0_size) :: a0_fx)), (a0_marks, .inl (cs.1, a0_marksN, .inl (aI a0_marksF)))] (some (.int (iI r))) [(a0, .inr (a0_ci, .ref a0_marks :: .int (iI a0_size) :: a0_fx)), (a0_marks, .inl (cs.1, a0_marksN, .inl (aI a0_marksF)))] := by
  refine q_start_i [(0, .ref a0), (1, .int (iI x1))] RX3 rfl (by decide +kernel) rfl (Nat.le_of_ble_eq_true rfl) rfl (fun κ ok fin => ?_)
  unfold f_X3_itemStart at h
  refine j_iconst (pc := 0) ok dX3_itemStart_0 ?_
  refine j_istore_n (pc := 1) (lv' := [(2, .int (iI 0)), (0, .ref a0), (1, .int (iI x1))]) ok dX3_itemStart_1 rfl (by decide) rfl ?_
  refine j_iload_n (pc := 2) 2 ok dX3_itemStart_2 rfl rfl ?_
  refine j_iconst (pc := 3) ok dX3_itemStart_3 ?_
  refine j_isub (pc := 4) ok dX3_itemStart_4 ?_
  refine j_istore_n (pc := 5) (lv' := [(3, .int (iI (x1 - 1))), (2, .int (iI 0)), (0, .ref a0), (1, .int (iI x1))]) ok dX3_itemStart_5 rfl (by decide) rfl ?_
  refine j_lv [2, 1, 0] rfl ?_
  refine l_X3_itemStart_6 ha0 ok fin (fun z3 h => ?_) fuel _ _ h
  · refine j_iconst (pc := 33) ok dX3_itemStart_33 ?_
    obtain rfl := Option.some.inj h
    exact fin _ 34 dX3_itemStart_34
def f_X0_widenLeft (a0_size : Int) (a0_from : Int) (a0_marksF : (Nat → Int)) : Option (Int × Int) := bd (f_X3_isBehindItem 180 a0_size a0_marksF a0_from) (fun r1 => cEq r1 0 (gB 0 (some (0, a0_from))) (bd (f_X3_itemStart 180 a0_size a0_marksF a0_from) (fun r2 => gB 1 (some (1, r2)))))
set_option maxRecDepth 100000 in
set_option maxHeartbeats 4000000 in
theorem k_X0_widenLeft {D : va_G} {cs : q_CS} {a0 a0_marks : Nat} {a0_size a0_caret a0_from : Int} {a0_marksF : (Nat → Int)} {r : (Int × Int)} (h : f_X0_widenLeft a0_size a0_from a0_marksF = some r) : q_M D cs yX0_widenLeft cX0_widenLeft 1 (some .boolean) 2 44 [.ref a0] [(a0, .inr (0, [.ref a0_marks, .int (iI a0_size), .int (iI a0_caret), .int (iI a0_from)])), (a0_marks, .inl (cs.1, 180, .inl (aI a0_marksF)))] (some (.int (iI r.1))) [(a0, .inr (0, [.ref a0_marks, .int (iI a0_size), .int (iI a0_caret), .int (iI r.2)])), (a0_marks, .inl (cs.1, 180, .inl (aI a0_marksF)))] := by
  refine q_start_z [(0, .ref a0)] RX0 rfl (by decide +kernel) rfl (Nat.le_of_ble_eq_true rfl) (fun κ ok fin => ?_)
  unfold f_X0_widenLeft at h
  refine j_aload_n (pc := 0) 0 ok dX0_widenLeft_0 rfl rfl ?_
  refine j_aload_n (pc := 1) 0 ok dX0_widenLeft_1 rfl rfl ?_
  refine gf_X0_22_0 (pc := 2) 0 ok rfl dX0_widenLeft_2 ?_
  obtain ⟨r1, hr1, h⟩ := bd_inv h
  refine j_callU (pc := 5) ok (k_X3_isBehindItem (a0 := a0) (a0_marks := a0_marks) (a0_ci := 0) (a0_fx := [.int (iI a0_caret), .int (iI a0_from)]) (a0_marksN := 180) (a0_size := a0_size) (a0_marksF := a0_marksF) (x1 := a0_from) (q_mk0 _ _) hr1) gU_X0_43 rfl hd_X3_isBehindItem [0, 1] (by decide) rfl rfl 0 rfl rfl rfl rfl ⟨Nat.zero_le _, Nat.zero_le _⟩ (Nat.le_of_ble_eq_true rfl) dX0_widenLeft_5 rfl [(a0, .inr (0, [.ref a0_marks, .int (iI a0_size), .int (iI a0_caret), .int (iI a0_from)])), (a0_marks, .inl (cs.1, 180, .inl (aI a0_marksF)))] rfl ?_
  refine j_if_ne (pc := 8) 13 ok dX0_widenLeft_8 (by decide) h (fun h => ?_) (fun h => ?_)
  · refine j_aload_n (pc := 13) 0 ok dX0_widenLeft_13 rfl rfl ?_
    refine j_aload_n (pc := 14) 0 ok dX0_widenLeft_14 rfl rfl ?_
    refine j_aload_n (pc := 15) 0 ok dX0_widenLeft_15 rfl rfl ?_
    refine gf_X0_22_0 (pc := 16) 0 ok rfl dX0_widenLeft_16 ?_
    obtain ⟨r2, hr2, h⟩ := bd_inv h
    refine j_callU (pc := 19) ok (k_X3_itemStart (a0 := a0) (a0_marks := a0_marks) (a0_ci := 0) (a0_fx := [.int (iI a0_caret), .int (iI a0_from)]) (a0_marksN := 180) (a0_size := a0_size) (a0_marksF := a0_marksF) (x1 := a0_from) (q_mk0 _ _) hr2) gU_X0_47 rfl hd_X3_itemStart [0, 1] (by decide) rfl rfl 0 rfl rfl rfl rfl ⟨Nat.zero_le _, Nat.zero_le _⟩ (Nat.le_of_ble_eq_true rfl) dX0_widenLeft_19 rfl [(a0, .inr (0, [.ref a0_marks, .int (iI a0_size), .int (iI a0_caret), .int (iI a0_from)])), (a0_marks, .inl (cs.1, 180, .inl (aI a0_marksF)))] rfl ?_
    refine pf_X0_22_0 (pc := 22) 0 ok rfl dX0_widenLeft_22 [(a0, .inr (0, [.ref a0_marks, .int (iI a0_size), .int (iI a0_caret), .int (iI r2)])), (a0_marks, .inl (cs.1, 180, .inl (aI a0_marksF)))] rfl ?_
    refine j_iconst (pc := 25) ok dX0_widenLeft_25 ?_
    obtain ⟨hbo, h⟩ := gB_inv h
    obtain rfl := Option.some.inj h
    exact fin _ 26 hbo dX0_widenLeft_26
  · refine j_iconst (pc := 11) ok dX0_widenLeft_11 ?_
    obtain ⟨hbo, h⟩ := gB_inv h
    obtain rfl := Option.some.inj h
    exact fin _ 12 hbo dX0_widenLeft_12
def f_X3_itemEnd_4 (a0_marksN : Nat) (a0_size : Int) (a0_marksF : (Nat → Int)) (e4_37 : Int × Int → Option (Int)) : Nat → Int → Int → Option (Int)
  | 0, _, _ => none
  | n + 1, y2, y3 => cLt y3 a0_size (bd (f_X3_mark a0_marksN a0_size a0_marksF y3) (fun r1 => bd (f_X3_opening r1) (fun r2 => cLt 0 (y2 + r2) (f_X3_itemEnd_4 a0_marksN a0_size a0_marksF e4_37 n (y2 + r2) (y3 + 1)) (some (y3 + 1))))) (e4_37 (y2, y3))
set_option maxRecDepth 100000 in
theorem l_X3_itemEnd_4 {D : va_G} {cs : q_CS} {κ : q_X} {a0 a0_marks : Nat} {a0_marksN : Nat} {a0_ci : Nat} {a0_fx : List Value} {a0_size : Int} {a0_marksF : (Nat → Int)} {r : (Int)} {e4_37 : Int × Int → Option (Int)} (ha0 : q_mk a0_ci a0_fx) (ok : q_ok D cs κ cX3_itemEnd 4 RX3 (q_rm 1 21)) (fin : ∀ (lv : List (Nat × Value)) (pc : Nat), decode cX3_itemEnd pc = .ok (.ireturn, 1) → q_J D κ 4 0 0 [(a0, .inr (a0_ci, .ref a0_marks :: .int (iI a0_size) :: a0_fx)), (a0_marks, .inl (cs.1, a0_marksN, .inl (aI a0_marksF)))] lv pc [.int (iI r)]) (he4_37 : ∀ x : Int × Int, e4_37 x = some r → q_J D κ 4 0 0 [(a0, .inr (a0_ci, .ref a0_marks :: .int (iI a0_size) :: a0_fx)), (a0_marks, .inl (cs.1, a0_marksN, .inl (aI a0_marksF)))] [(0, .ref a0)] 37 []) : ∀ (n : Nat) (y2 : Int) (y3 : Int), f_X3_itemEnd_4 a0_marksN a0_size a0_marksF e4_37 n y2 y3 = some r → q_J D κ 4 0 0 [(a0, .inr (a0_ci, .ref a0_marks :: .int (iI a0_size) :: a0_fx)), (a0_marks, .inl (cs.1, a0_marksN, .inl (aI a0_marksF)))] [(0, .ref a0), (2, .int (iI y2)), (3, .int (iI y3))] 4 [] := by
  intro n
  induction n with
  | zero =>
    intro y2 y3 h
    exact absurd h (by unfold f_X3_itemEnd_4; exact fun z => by cases z)
  | succ n ih =>
    intro y2 y3 h
    unfold f_X3_itemEnd_4 at h
    refine j_iload_n (pc := 4) 2 ok dX3_itemEnd_4 rfl rfl ?_
    refine j_aload_n (pc := 5) 0 ok dX3_itemEnd_5 rfl rfl ?_
    refine gm_X3_21 (pc := 6) 0 ok ha0 rfl dX3_itemEnd_6 ?_
    refine j_icmp_ge (pc := 9) 37 ok dX3_itemEnd_9 (by decide) h (fun h => ?_) (fun h => ?_)
    · refine j_lv [0] rfl ?_
      exact he4_37 (y2, y3) h
    · refine j_iload_n (pc := 12) 1 ok dX3_itemEnd_12 rfl rfl ?_
      refine j_aload_n (pc := 13) 0 ok dX3_itemEnd_13 rfl rfl ?_
      refine j_iload_n (pc := 14) 2 ok dX3_itemEnd_14 rfl rfl ?_
      obtain ⟨r1, hr1, h⟩ := bd_inv h
      refine j_callM (pc := 15) ok ha0 (k_X3_mark (a0 := a0) (a0_marks := a0_marks) (a0_ci := a0_ci) (a0_fx := a0_fx) (a0_marksN := a0_marksN) (a0_size := a0_size) (a0_marksF := a0_marksF) (x1 := y3) ha0 hr1) gU_X3_31 rfl hd_X3_mark gV_X3_31 ⟨rfl, hd_X3_mark⟩ [0, 1] (by decide) rfl rfl 0 rfl rfl rfl ⟨Nat.zero_le _, Nat.zero_le _⟩ (Nat.le_of_ble_eq_true rfl) dX3_itemEnd_15 rfl [(a0, .inr (a0_ci, .ref a0_marks :: .int (iI a0_size) :: a0_fx)), (a0_marks, .inl (cs.1, a0_marksN, .inl (aI a0_marksF)))] rfl ?_
      obtain ⟨r2, hr2, h⟩ := bd_inv h
      refine j_callS (pc := 18) ok (k_X3_opening (x0 := r1) hr2) gS_X3_42 hd_X3_opening [] (by decide) rfl rfl rfl rfl ⟨Nat.zero_le _, Nat.zero_le _⟩ (Nat.le_of_ble_eq_true rfl) dX3_itemEnd_18 rfl [(a0, .inr (a0_ci, .ref a0_marks :: .int (iI a0_size) :: a0_fx)), (a0_marks, .inl (cs.1, a0_marksN, .inl (aI a0_marksF)))] rfl ?_
      refine j_iadd (pc := 21) ok dX3_itemEnd_21 ?_
      refine j_istore_n (pc := 22) (lv' := [(2, .int (iI (y2 + r2))), (0, .ref a0), (3, .int (iI y3))]) ok dX3_itemEnd_22 rfl (by decide) rfl ?_
      refine j_iload_n (pc := 23) 0 ok dX3_itemEnd_23 rfl rfl ?_
      refine j_if_gt (pc := 24) 31 ok dX3_itemEnd_24 (by decide) h (fun h => ?_) (fun h => ?_)
      · refine j_iinc (pc := 31) (lv' := [(3, .int (iI (y3 + 1))), (2, .int (iI (y2 + r2))), (0, .ref a0)]) 2 ok dX3_itemEnd_31 rfl (by decide) rfl ?_
        refine j_goto (pc := 34) 4 ok dX3_itemEnd_34 (by decide) ?_
        refine j_lv [2, 1, 0] rfl ?_
        exact ih _ _ h
      · refine j_iload_n (pc := 27) 2 ok dX3_itemEnd_27 rfl rfl ?_
        refine j_iconst (pc := 28) ok dX3_itemEnd_28 ?_
        refine j_iadd (pc := 29) ok dX3_itemEnd_29 ?_
        obtain rfl := Option.some.inj h
        exact fin _ 30 dX3_itemEnd_30
def f_X3_itemEnd (a0_marksN : Nat) (a0_size : Int) (a0_marksF : (Nat → Int)) (x1 : Int) : Option (Int) := f_X3_itemEnd_4 a0_marksN a0_size a0_marksF (fun (z3 : Int × Int) => some a0_size) fuel 0 x1
set_option maxRecDepth 100000 in
set_option maxHeartbeats 4000000 in
theorem k_X3_itemEnd {D : va_G} {cs : q_CS} {a0 a0_marks : Nat} {a0_marksN : Nat} {a0_ci : Nat} {a0_fx : List Value} {a0_size : Int} {a0_marksF : (Nat → Int)} {x1 : Int} {r : (Int)} (ha0 : q_mk a0_ci a0_fx) (h : f_X3_itemEnd a0_marksN a0_size a0_marksF x1 = some r) : q_M D cs yX3_itemEnd cX3_itemEnd 4 (some .int) 1 21 [.ref a0, .int (iI x1)] [(a0, .inr (a0_ci, .ref a0_marks :: .int (iI a0_size) :: a0_fx)), (a0_marks, .inl (cs.1, a0_marksN, .inl (aI a0_marksF)))] (some (.int (iI r))) [(a0, .inr (a0_ci, .ref a0_marks :: .int (iI a0_size) :: a0_fx)), (a0_marks, .inl (cs.1, a0_marksN, .inl (aI a0_marksF)))] := by
  refine q_start_i [(0, .ref a0), (1, .int (iI x1))] RX3 rfl (by decide +kernel) rfl (Nat.le_of_ble_eq_true rfl) rfl (fun κ ok fin => ?_)
  unfold f_X3_itemEnd at h
  refine j_iconst (pc := 0) ok dX3_itemEnd_0 ?_
  refine j_istore_n (pc := 1) (lv' := [(2, .int (iI 0)), (0, .ref a0), (1, .int (iI x1))]) ok dX3_itemEnd_1 rfl (by decide) rfl ?_
  refine j_iload_n (pc := 2) 2 ok dX3_itemEnd_2 rfl rfl ?_
  refine j_istore_n (pc := 3) (lv' := [(3, .int (iI x1)), (2, .int (iI 0)), (0, .ref a0), (1, .int (iI x1))]) ok dX3_itemEnd_3 rfl (by decide) rfl ?_
  refine j_lv [2, 1, 0] rfl ?_
  refine l_X3_itemEnd_4 ha0 ok fin (fun z3 h => ?_) fuel _ _ h
  · refine j_aload_n (pc := 37) 0 ok dX3_itemEnd_37 rfl rfl ?_
    refine gm_X3_21 (pc := 38) 0 ok ha0 rfl dX3_itemEnd_38 ?_
    obtain rfl := Option.some.inj h
    exact fin _ 41 dX3_itemEnd_41
def f_X0_widenRight (a0_size : Int) (a0_caret : Int) (a0_marksF : (Nat → Int)) : Option (Int × Int) := bd (f_X3_mark 180 a0_size a0_marksF a0_caret) (fun r1 => bd (f_X7_startsItem r1) (fun r2 => cEq r2 0 (gB 0 (some (0, a0_caret))) (bd (f_X3_itemEnd 180 a0_size a0_marksF a0_caret) (fun r3 => gB 1 (some (1, r3))))))
set_option maxRecDepth 100000 in
set_option maxHeartbeats 4000000 in
theorem k_X0_widenRight {D : va_G} {cs : q_CS} {a0 a0_marks : Nat} {a0_size a0_caret a0_from : Int} {a0_marksF : (Nat → Int)} {r : (Int × Int)} (h : f_X0_widenRight a0_size a0_caret a0_marksF = some r) : q_M D cs yX0_widenRight cX0_widenRight 1 (some .boolean) 2 44 [.ref a0] [(a0, .inr (0, [.ref a0_marks, .int (iI a0_size), .int (iI a0_caret), .int (iI a0_from)])), (a0_marks, .inl (cs.1, 180, .inl (aI a0_marksF)))] (some (.int (iI r.1))) [(a0, .inr (0, [.ref a0_marks, .int (iI a0_size), .int (iI r.2), .int (iI a0_from)])), (a0_marks, .inl (cs.1, 180, .inl (aI a0_marksF)))] := by
  refine q_start_z [(0, .ref a0)] RX0 rfl (by decide +kernel) rfl (Nat.le_of_ble_eq_true rfl) (fun κ ok fin => ?_)
  unfold f_X0_widenRight at h
  refine j_aload_n (pc := 0) 0 ok dX0_widenRight_0 rfl rfl ?_
  refine j_aload_n (pc := 1) 0 ok dX0_widenRight_1 rfl rfl ?_
  refine gf_X0_19_0 (pc := 2) 0 ok rfl dX0_widenRight_2 ?_
  obtain ⟨r1, hr1, h⟩ := bd_inv h
  refine j_callU (pc := 5) ok (k_X3_mark (a0 := a0) (a0_marks := a0_marks) (a0_ci := 0) (a0_fx := [.int (iI a0_caret), .int (iI a0_from)]) (a0_marksN := 180) (a0_size := a0_size) (a0_marksF := a0_marksF) (x1 := a0_caret) (q_mk0 _ _) hr1) gU_X0_51 rfl hd_X3_mark [0, 1] (by decide) rfl rfl 0 rfl rfl rfl rfl ⟨Nat.zero_le _, Nat.zero_le _⟩ (Nat.le_of_ble_eq_true rfl) dX0_widenRight_5 rfl [(a0, .inr (0, [.ref a0_marks, .int (iI a0_size), .int (iI a0_caret), .int (iI a0_from)])), (a0_marks, .inl (cs.1, 180, .inl (aI a0_marksF)))] rfl ?_
  obtain ⟨r2, hr2, h⟩ := bd_inv h
  refine j_callN (pc := 8) ok (k_X7_startsItem (x0 := r1) hr2) gN_X0_54 gNw_X0_54 gNi_X0_54 gNs_X0_54 hd_X7_startsItem [] (by decide) rfl rfl rfl rfl ⟨Nat.zero_le _, Nat.zero_le _⟩ (Nat.le_of_ble_eq_true rfl) dX0_widenRight_8 rfl [(a0, .inr (0, [.ref a0_marks, .int (iI a0_size), .int (iI a0_caret), .int (iI a0_from)])), (a0_marks, .inl (cs.1, 180, .inl (aI a0_marksF)))] rfl ?_
  refine j_if_ne (pc := 11) 16 ok dX0_widenRight_11 (by decide) h (fun h => ?_) (fun h => ?_)
  · refine j_aload_n (pc := 16) 0 ok dX0_widenRight_16 rfl rfl ?_
    refine j_aload_n (pc := 17) 0 ok dX0_widenRight_17 rfl rfl ?_
    refine j_aload_n (pc := 18) 0 ok dX0_widenRight_18 rfl rfl ?_
    refine gf_X0_19_0 (pc := 19) 0 ok rfl dX0_widenRight_19 ?_
    obtain ⟨r3, hr3, h⟩ := bd_inv h
    refine j_callU (pc := 22) ok (k_X3_itemEnd (a0 := a0) (a0_marks := a0_marks) (a0_ci := 0) (a0_fx := [.int (iI a0_caret), .int (iI a0_from)]) (a0_marksN := 180) (a0_size := a0_size) (a0_marksF := a0_marksF) (x1 := a0_caret) (q_mk0 _ _) hr3) gU_X0_57 rfl hd_X3_itemEnd [0, 1] (by decide) rfl rfl 0 rfl rfl rfl rfl ⟨Nat.zero_le _, Nat.zero_le _⟩ (Nat.le_of_ble_eq_true rfl) dX0_widenRight_22 rfl [(a0, .inr (0, [.ref a0_marks, .int (iI a0_size), .int (iI a0_caret), .int (iI a0_from)])), (a0_marks, .inl (cs.1, 180, .inl (aI a0_marksF)))] rfl ?_
    refine pf_X0_19_0 (pc := 25) 0 ok rfl dX0_widenRight_25 [(a0, .inr (0, [.ref a0_marks, .int (iI a0_size), .int (iI r3), .int (iI a0_from)])), (a0_marks, .inl (cs.1, 180, .inl (aI a0_marksF)))] rfl ?_
    refine j_iconst (pc := 28) ok dX0_widenRight_28 ?_
    obtain ⟨hbo, h⟩ := gB_inv h
    obtain rfl := Option.some.inj h
    exact fin _ 29 hbo dX0_widenRight_29
  · refine j_iconst (pc := 14) ok dX0_widenRight_14 ?_
    obtain ⟨hbo, h⟩ := gB_inv h
    obtain rfl := Option.some.inj h
    exact fin _ 15 hbo dX0_widenRight_15
def f_X7_opens (x0 : Int) : Option (Int) := jn (fun (z4 : Int) => gB z4 (some z4)) (fun k2 => jn (fun (z3 : Unit) => k2 0) (fun k1 => cLt x0 1 (k1 ()) (cLt 5 x0 (k1 ()) (k2 1))))
set_option maxRecDepth 100000 in
set_option maxHeartbeats 4000000 in
theorem k_X7_opens {D : va_G} {cs : q_CS} {x0 : Int} {r : (Int)} (h : f_X7_opens x0 = some r) : q_M D cs yX7_opens cX7_opens 1 (some .boolean) 0 0 [.int (iI x0)] [] (some (.int (iI r))) [] := by
  refine q_start_z [(0, .int (iI x0))] RX7 rfl (by decide +kernel) rfl (Nat.le_of_ble_eq_true rfl) (fun κ ok fin => ?_)
  unfold f_X7_opens at h
  refine j_iload_n (pc := 0) 0 ok dX7_opens_0 rfl rfl ?_
  refine j_iconst (pc := 1) ok dX7_opens_1 ?_
  refine jn_use (P := fun z4 => q_J D κ 1 0 0 [] [] 15 [.int (iI z4)]) h (fun z4 h => ?_) (fun k2 hk2 h => ?_)
  · obtain ⟨hbo, h⟩ := gB_inv h
    obtain rfl := Option.some.inj h
    exact fin _ 15 hbo dX7_opens_15
  · refine jn_use (P := fun z3 => q_J D κ 1 0 0 [] [] 14 []) h (fun z3 h => ?_) (fun k1 hk1 h => ?_)
    · refine j_iconst (pc := 14) ok dX7_opens_14 ?_
      exact hk2 0 h
    · refine j_icmp_lt (pc := 2) 14 ok dX7_opens_2 (by decide) h (fun h => ?_) (fun h => ?_)
      · refine j_lv [] rfl ?_
        exact hk1 () h
      · refine j_iload_n (pc := 5) 0 ok dX7_opens_5 rfl rfl ?_
        refine j_iconst (pc := 6) ok dX7_opens_6 ?_
        refine j_icmp_gt (pc := 7) 14 ok dX7_opens_7 (by decide) h (fun h => ?_) (fun h => ?_)
        · refine j_lv [] rfl ?_
          exact hk1 () h
        · refine j_iconst (pc := 10) ok dX7_opens_10 ?_
          refine j_goto (pc := 11) 15 ok dX7_opens_11 (by decide) ?_
          refine j_lv [] rfl ?_
          exact hk2 1 h
def f_X3_rowStart_6 (a0_marksN : Nat) (a0_size : Int) (a0_marksF : (Nat → Int)) (e6_54 : Int × Int → Option (Int)) : Nat → Int → Int → Option (Int)
  | 0, _, _ => none
  | n + 1, y2, y3 => cLt y3 0 (e6_54 (y2, y3)) (bd (f_X3_mark a0_marksN a0_size a0_marksF y3) (fun r1 => jn (fun (z6 : Unit) => bd (f_X3_opening r1) (fun r7 => f_X3_rowStart_6 a0_marksN a0_size a0_marksF e6_54 n (y2 - r7) (y3 + (-1)))) (fun k2 => cEq y2 0 (bd (f_X7_opens r1) (fun r3 => jn (fun (z5 : Unit) => some (y3 + 1)) (fun k4 => cEq r3 0 (cEq r1 6 (k4 ()) (k2 ())) (k4 ())))) (k2 ()))))
set_option maxRecDepth 100000 in
theorem l_X3_rowStart_6 {D : va_G} {cs : q_CS} {κ : q_X} {a0 a0_marks : Nat} {a0_marksN : Nat} {a0_ci : Nat} {a0_fx : List Value} {a0_size : Int} {a0_marksF : (Nat → Int)} {r : (Int)} {e6_54 : Int × Int → Option (Int)} (ha0 : q_mk a0_ci a0_fx) (ok : q_ok D cs κ cX3_rowStart 5 RX3 (q_rm 1 21)) (fin : ∀ (lv : List (Nat × Value)) (pc : Nat), decode cX3_rowStart pc = .ok (.ireturn, 1) → q_J D κ 5 0 0 [(a0, .inr (a0_ci, .ref a0_marks :: .int (iI a0_size) :: a0_fx)), (a0_marks, .inl (cs.1, a0_marksN, .inl (aI a0_marksF)))] lv pc [.int (iI r)]) (he6_54 : ∀ x : Int × Int, e6_54 x = some r → q_J D κ 5 0 0 [(a0, .inr (a0_ci, .ref a0_marks :: .int (iI a0_size) :: a0_fx)), (a0_marks, .inl (cs.1, a0_marksN, .inl (aI a0_marksF)))] [] 54 []) : ∀ (n : Nat) (y2 : Int) (y3 : Int), f_X3_rowStart_6 a0_marksN a0_size a0_marksF e6_54 n y2 y3 = some r → q_J D κ 5 0 0 [(a0, .inr (a0_ci, .ref a0_marks :: .int (iI a0_size) :: a0_fx)), (a0_marks, .inl (cs.1, a0_marksN, .inl (aI a0_marksF)))] [(0, .ref a0), (2, .int (iI y2)), (3, .int (iI y3))] 6 [] := by
  intro n
  induction n with
  | zero =>
    intro y2 y3 h
    exact absurd h (by unfold f_X3_rowStart_6; exact fun z => by cases z)
  | succ n ih =>
    intro y2 y3 h
    unfold f_X3_rowStart_6 at h
    refine j_iload_n (pc := 6) 2 ok dX3_rowStart_6 rfl rfl ?_
    refine j_if_lt (pc := 7) 54 ok dX3_rowStart_7 (by decide) h (fun h => ?_) (fun h => ?_)
    · refine j_lv [] rfl ?_
      exact he6_54 (y2, y3) h
    · refine j_aload_n (pc := 10) 0 ok dX3_rowStart_10 rfl rfl ?_
      refine j_iload_n (pc := 11) 2 ok dX3_rowStart_11 rfl rfl ?_
      obtain ⟨r1, hr1, h⟩ := bd_inv h
      refine j_callM (pc := 12) ok ha0 (k_X3_mark (a0 := a0) (a0_marks := a0_marks) (a0_ci := a0_ci) (a0_fx := a0_fx) (a0_marksN := a0_marksN) (a0_size := a0_size) (a0_marksF := a0_marksF) (x1 := y3) ha0 hr1) gU_X3_31 rfl hd_X3_mark gV_X3_31 ⟨rfl, hd_X3_mark⟩ [0, 1] (by decide) rfl rfl 0 rfl rfl rfl ⟨Nat.zero_le _, Nat.zero_le _⟩ (Nat.le_of_ble_eq_true rfl) dX3_rowStart_12 rfl [(a0, .inr (a0_ci, .ref a0_marks :: .int (iI a0_size) :: a0_fx)), (a0_marks, .inl (cs.1, a0_marksN, .inl (aI a0_marksF)))] rfl ?_
      refine j_istore (pc := 15) (lv' := [(4, .int (iI r1)), (0, .ref a0), (2, .int (iI y2)), (3, .int (iI y3))]) ok dX3_rowStart_15 (by decide) rfl ?_
      refine j_iload_n (pc := 17) 2 ok dX3_rowStart_17 rfl rfl ?_
      refine jn_use (P := fun z6 => q_J D κ 5 0 0 [(a0, .inr (a0_ci, .ref a0_marks :: .int (iI a0_size) :: a0_fx)), (a0_marks, .inl (cs.1, a0_marksN, .inl (aI a0_marksF)))] [(0, .ref a0), (2, .int (iI y2)), (3, .int (iI y3)), (4, .int (iI r1))] 40 []) h (fun z6 h => ?_) (fun k2 hk2 h => ?_)
      · refine j_iload_n (pc := 40) 1 ok dX3_rowStart_40 rfl rfl ?_
        refine j_iload (pc := 41) 3 ok dX3_rowStart_41 rfl ?_
        obtain ⟨r7, hr7, h⟩ := bd_inv h
        refine j_callS (pc := 43) ok (k_X3_opening (x0 := r1) hr7) gS_X3_42 hd_X3_opening [] (by decide) rfl rfl rfl rfl ⟨Nat.zero_le _, Nat.zero_le _⟩ (Nat.le_of_ble_eq_true rfl) dX3_rowStart_43 rfl [(a0, .inr (a0_ci, .ref a0_marks :: .int (iI a0_size) :: a0_fx)), (a0_marks, .inl (cs.1, a0_marksN, .inl (aI a0_marksF)))] rfl ?_
        refine j_isub (pc := 46) ok dX3_rowStart_46 ?_
        refine j_istore_n (pc := 47) (lv' := [(2, .int (iI (y2 - r7))), (0, .ref a0), (3, .int (iI y3)), (4, .int (iI r1))]) ok dX3_rowStart_47 rfl (by decide) rfl ?_
        refine j_iinc (pc := 48) (lv' := [(3, .int (iI (y3 + (-1)))), (2, .int (iI (y2 - r7))), (0, .ref a0), (4, .int (iI r1))]) 2 ok dX3_rowStart_48 rfl (by decide) rfl ?_
        refine j_goto (pc := 51) 6 ok dX3_rowStart_51 (by decide) ?_
        refine j_lv [2, 1, 0] rfl ?_
        exact ih _ _ h
      · refine j_if_ne (pc := 18) 40 ok dX3_rowStart_18 (by decide) h (fun h => ?_) (fun h => ?_)
        · refine j_lv [1, 2, 3, 0] rfl ?_
          exact hk2 () h
        · refine j_iload (pc := 21) 0 ok dX3_rowStart_21 rfl ?_
          obtain ⟨r3, hr3, h⟩ := bd_inv h
          refine j_callN (pc := 23) ok (k_X7_opens (x0 := r1) hr3) gN_X3_45 gNw_X3_45 gNi_X3_45 gNs_X3_45 hd_X7_opens [] (by decide) rfl rfl rfl rfl ⟨Nat.zero_le _, Nat.zero_le _⟩ (Nat.le_of_ble_eq_true rfl) dX3_rowStart_23 rfl [(a0, .inr (a0_ci, .ref a0_marks :: .int (iI a0_size) :: a0_fx)), (a0_marks, .inl (cs.1, a0_marksN, .inl (aI a0_marksF)))] rfl ?_
          refine jn_use (P := fun z5 => q_J D κ 5 0 0 [(a0, .inr (a0_ci, .ref a0_marks :: .int (iI a0_size) :: a0_fx)), (a0_marks, .inl (cs.1, a0_marksN, .inl (aI a0_marksF)))] [(3, .int (iI y3))] 36 []) h (fun z5 h => ?_) (fun k4 hk4 h => ?_)
          · refine j_iload_n (pc := 36) 0 ok dX3_rowStart_36 rfl rfl ?_
            refine j_iconst (pc := 37) ok dX3_rowStart_37 ?_
            refine j_iadd (pc := 38) ok dX3_rowStart_38 ?_
            obtain rfl := Option.some.inj h
            exact fin _ 39 dX3_rowStart_39
          · refine j_if_ne (pc := 26) 36 ok dX3_rowStart_26 (by decide) h (fun h => ?_) (fun h => ?_)
            · refine j_lv [3] rfl ?_
              exact hk4 () h
            · refine j_iload (pc := 29) 0 ok dX3_rowStart_29 rfl ?_
              refine j_bipush (pc := 31) ok dX3_rowStart_31 (by decide) ?_
              refine j_icmp_ne (pc := 33) 40 ok dX3_rowStart_33 (by decide) h (fun h => ?_) (fun h => ?_)
              · refine j_lv [1, 2, 3, 0] rfl ?_
                exact hk2 () h
              · refine j_lv [3] rfl ?_
                exact hk4 () h
def f_X3_rowStart (a0_marksN : Nat) (a0_size : Int) (a0_marksF : (Nat → Int)) (x1 : Int) : Option (Int) := f_X3_rowStart_6 a0_marksN a0_size a0_marksF (fun (z8 : Int × Int) => some 0) fuel 0 (x1 - 1)
set_option maxRecDepth 100000 in
set_option maxHeartbeats 4000000 in
theorem k_X3_rowStart {D : va_G} {cs : q_CS} {a0 a0_marks : Nat} {a0_marksN : Nat} {a0_ci : Nat} {a0_fx : List Value} {a0_size : Int} {a0_marksF : (Nat → Int)} {x1 : Int} {r : (Int)} (ha0 : q_mk a0_ci a0_fx) (h : f_X3_rowStart a0_marksN a0_size a0_marksF x1 = some r) : q_M D cs yX3_rowStart cX3_rowStart 5 (some .int) 1 21 [.ref a0, .int (iI x1)] [(a0, .inr (a0_ci, .ref a0_marks :: .int (iI a0_size) :: a0_fx)), (a0_marks, .inl (cs.1, a0_marksN, .inl (aI a0_marksF)))] (some (.int (iI r))) [(a0, .inr (a0_ci, .ref a0_marks :: .int (iI a0_size) :: a0_fx)), (a0_marks, .inl (cs.1, a0_marksN, .inl (aI a0_marksF)))] := by
  refine q_start_i [(0, .ref a0), (1, .int (iI x1))] RX3 rfl (by decide +kernel) rfl (Nat.le_of_ble_eq_true rfl) rfl (fun κ ok fin => ?_)
  unfold f_X3_rowStart at h
  refine j_iconst (pc := 0) ok dX3_rowStart_0 ?_
  refine j_istore_n (pc := 1) (lv' := [(2, .int (iI 0)), (0, .ref a0), (1, .int (iI x1))]) ok dX3_rowStart_1 rfl (by decide) rfl ?_
  refine j_iload_n (pc := 2) 2 ok dX3_rowStart_2 rfl rfl ?_
  refine j_iconst (pc := 3) ok dX3_rowStart_3 ?_
  refine j_isub (pc := 4) ok dX3_rowStart_4 ?_
  refine j_istore_n (pc := 5) (lv' := [(3, .int (iI (x1 - 1))), (2, .int (iI 0)), (0, .ref a0), (1, .int (iI x1))]) ok dX3_rowStart_5 rfl (by decide) rfl ?_
  refine j_lv [2, 1, 0] rfl ?_
  refine l_X3_rowStart_6 ha0 ok fin (fun z8 h => ?_) fuel _ _ h
  · refine j_iconst (pc := 54) ok dX3_rowStart_54 ?_
    obtain rfl := Option.some.inj h
    exact fin _ 55 dX3_rowStart_55
def f_X7_closes (x0 : Int) : Option (Int) := jn (fun (z4 : Int) => gB z4 (some z4)) (fun k2 => jn (fun (z3 : Unit) => k2 0) (fun k1 => cLt x0 11 (k1 ()) (cLt 15 x0 (k1 ()) (k2 1))))
set_option maxRecDepth 100000 in
set_option maxHeartbeats 4000000 in
theorem k_X7_closes {D : va_G} {cs : q_CS} {x0 : Int} {r : (Int)} (h : f_X7_closes x0 = some r) : q_M D cs yX7_closes cX7_closes 1 (some .boolean) 0 0 [.int (iI x0)] [] (some (.int (iI r))) [] := by
  refine q_start_z [(0, .int (iI x0))] RX7 rfl (by decide +kernel) rfl (Nat.le_of_ble_eq_true rfl) (fun κ ok fin => ?_)
  unfold f_X7_closes at h
  refine j_iload_n (pc := 0) 0 ok dX7_closes_0 rfl rfl ?_
  refine j_bipush (pc := 1) ok dX7_closes_1 (by decide) ?_
  refine jn_use (P := fun z4 => q_J D κ 1 0 0 [] [] 17 [.int (iI z4)]) h (fun z4 h => ?_) (fun k2 hk2 h => ?_)
  · obtain ⟨hbo, h⟩ := gB_inv h
    obtain rfl := Option.some.inj h
    exact fin _ 17 hbo dX7_closes_17
  · refine jn_use (P := fun z3 => q_J D κ 1 0 0 [] [] 16 []) h (fun z3 h => ?_) (fun k1 hk1 h => ?_)
    · refine j_iconst (pc := 16) ok dX7_closes_16 ?_
      exact hk2 0 h
    · refine j_icmp_lt (pc := 3) 16 ok dX7_closes_3 (by decide) h (fun h => ?_) (fun h => ?_)
      · refine j_lv [] rfl ?_
        exact hk1 () h
      · refine j_iload_n (pc := 6) 0 ok dX7_closes_6 rfl rfl ?_
        refine j_bipush (pc := 7) ok dX7_closes_7 (by decide) ?_
        refine j_icmp_gt (pc := 9) 16 ok dX7_closes_9 (by decide) h (fun h => ?_) (fun h => ?_)
        · refine j_lv [] rfl ?_
          exact hk1 () h
        · refine j_iconst (pc := 12) ok dX7_closes_12 ?_
          refine j_goto (pc := 13) 17 ok dX7_closes_13 (by decide) ?_
          refine j_lv [] rfl ?_
          exact hk2 1 h
def f_X3_rowEnd_4 (a0_marksN : Nat) (a0_size : Int) (a0_marksF : (Nat → Int)) (e4_54 : Int × Int → Option (Int)) : Nat → Int → Int → Option (Int)
  | 0, _, _ => none
  | n + 1, y2, y3 => cLt y3 a0_size (bd (f_X3_mark a0_marksN a0_size a0_marksF y3) (fun r1 => jn (fun (z6 : Unit) => bd (f_X3_opening r1) (fun r7 => f_X3_rowEnd_4 a0_marksN a0_size a0_marksF e4_54 n (y2 + r7) (y3 + 1))) (fun k2 => cEq y2 0 (bd (f_X7_closes r1) (fun r3 => jn (fun (z5 : Unit) => some y3) (fun k4 => cEq r3 0 (cEq r1 6 (k4 ()) (k2 ())) (k4 ())))) (k2 ())))) (e4_54 (y2, y3))
set_option maxRecDepth 100000 in
theorem l_X3_rowEnd_4 {D : va_G} {cs : q_CS} {κ : q_X} {a0 a0_marks : Nat} {a0_marksN : Nat} {a0_ci : Nat} {a0_fx : List Value} {a0_size : Int} {a0_marksF : (Nat → Int)} {r : (Int)} {e4_54 : Int × Int → Option (Int)} (ha0 : q_mk a0_ci a0_fx) (ok : q_ok D cs κ cX3_rowEnd 5 RX3 (q_rm 1 21)) (fin : ∀ (lv : List (Nat × Value)) (pc : Nat), decode cX3_rowEnd pc = .ok (.ireturn, 1) → q_J D κ 5 0 0 [(a0, .inr (a0_ci, .ref a0_marks :: .int (iI a0_size) :: a0_fx)), (a0_marks, .inl (cs.1, a0_marksN, .inl (aI a0_marksF)))] lv pc [.int (iI r)]) (he4_54 : ∀ x : Int × Int, e4_54 x = some r → q_J D κ 5 0 0 [(a0, .inr (a0_ci, .ref a0_marks :: .int (iI a0_size) :: a0_fx)), (a0_marks, .inl (cs.1, a0_marksN, .inl (aI a0_marksF)))] [(0, .ref a0)] 54 []) : ∀ (n : Nat) (y2 : Int) (y3 : Int), f_X3_rowEnd_4 a0_marksN a0_size a0_marksF e4_54 n y2 y3 = some r → q_J D κ 5 0 0 [(a0, .inr (a0_ci, .ref a0_marks :: .int (iI a0_size) :: a0_fx)), (a0_marks, .inl (cs.1, a0_marksN, .inl (aI a0_marksF)))] [(0, .ref a0), (2, .int (iI y2)), (3, .int (iI y3))] 4 [] := by
  intro n
  induction n with
  | zero =>
    intro y2 y3 h
    exact absurd h (by unfold f_X3_rowEnd_4; exact fun z => by cases z)
  | succ n ih =>
    intro y2 y3 h
    unfold f_X3_rowEnd_4 at h
    refine j_iload_n (pc := 4) 2 ok dX3_rowEnd_4 rfl rfl ?_
    refine j_aload_n (pc := 5) 0 ok dX3_rowEnd_5 rfl rfl ?_
    refine gm_X3_21 (pc := 6) 0 ok ha0 rfl dX3_rowEnd_6 ?_
    refine j_icmp_ge (pc := 9) 54 ok dX3_rowEnd_9 (by decide) h (fun h => ?_) (fun h => ?_)
    · refine j_lv [0] rfl ?_
      exact he4_54 (y2, y3) h
    · refine j_aload_n (pc := 12) 0 ok dX3_rowEnd_12 rfl rfl ?_
      refine j_iload_n (pc := 13) 2 ok dX3_rowEnd_13 rfl rfl ?_
      obtain ⟨r1, hr1, h⟩ := bd_inv h
      refine j_callM (pc := 14) ok ha0 (k_X3_mark (a0 := a0) (a0_marks := a0_marks) (a0_ci := a0_ci) (a0_fx := a0_fx) (a0_marksN := a0_marksN) (a0_size := a0_size) (a0_marksF := a0_marksF) (x1 := y3) ha0 hr1) gU_X3_31 rfl hd_X3_mark gV_X3_31 ⟨rfl, hd_X3_mark⟩ [0, 1] (by decide) rfl rfl 0 rfl rfl rfl ⟨Nat.zero_le _, Nat.zero_le _⟩ (Nat.le_of_ble_eq_true rfl) dX3_rowEnd_14 rfl [(a0, .inr (a0_ci, .ref a0_marks :: .int (iI a0_size) :: a0_fx)), (a0_marks, .inl (cs.1, a0_marksN, .inl (aI a0_marksF)))] rfl ?_
      refine j_istore (pc := 17) (lv' := [(4, .int (iI r1)), (0, .ref a0), (2, .int (iI y2)), (3, .int (iI y3))]) ok dX3_rowEnd_17 (by decide) rfl ?_
      refine j_iload_n (pc := 19) 2 ok dX3_rowEnd_19 rfl rfl ?_
      refine jn_use (P := fun z6 => q_J D κ 5 0 0 [(a0, .inr (a0_ci, .ref a0_marks :: .int (iI a0_size) :: a0_fx)), (a0_marks, .inl (cs.1, a0_marksN, .inl (aI a0_marksF)))] [(0, .ref a0), (2, .int (iI y2)), (3, .int (iI y3)), (4, .int (iI r1))] 40 []) h (fun z6 h => ?_) (fun k2 hk2 h => ?_)
      · refine j_iload_n (pc := 40) 1 ok dX3_rowEnd_40 rfl rfl ?_
        refine j_iload (pc := 41) 3 ok dX3_rowEnd_41 rfl ?_
        obtain ⟨r7, hr7, h⟩ := bd_inv h
        refine j_callS (pc := 43) ok (k_X3_opening (x0 := r1) hr7) gS_X3_42 hd_X3_opening [] (by decide) rfl rfl rfl rfl ⟨Nat.zero_le _, Nat.zero_le _⟩ (Nat.le_of_ble_eq_true rfl) dX3_rowEnd_43 rfl [(a0, .inr (a0_ci, .ref a0_marks :: .int (iI a0_size) :: a0_fx)), (a0_marks, .inl (cs.1, a0_marksN, .inl (aI a0_marksF)))] rfl ?_
        refine j_iadd (pc := 46) ok dX3_rowEnd_46 ?_
        refine j_istore_n (pc := 47) (lv' := [(2, .int (iI (y2 + r7))), (0, .ref a0), (3, .int (iI y3)), (4, .int (iI r1))]) ok dX3_rowEnd_47 rfl (by decide) rfl ?_
        refine j_iinc (pc := 48) (lv' := [(3, .int (iI (y3 + 1))), (2, .int (iI (y2 + r7))), (0, .ref a0), (4, .int (iI r1))]) 2 ok dX3_rowEnd_48 rfl (by decide) rfl ?_
        refine j_goto (pc := 51) 4 ok dX3_rowEnd_51 (by decide) ?_
        refine j_lv [2, 1, 0] rfl ?_
        exact ih _ _ h
      · refine j_if_ne (pc := 20) 40 ok dX3_rowEnd_20 (by decide) h (fun h => ?_) (fun h => ?_)
        · refine j_lv [1, 2, 3, 0] rfl ?_
          exact hk2 () h
        · refine j_iload (pc := 23) 0 ok dX3_rowEnd_23 rfl ?_
          obtain ⟨r3, hr3, h⟩ := bd_inv h
          refine j_callN (pc := 25) ok (k_X7_closes (x0 := r1) hr3) gN_X3_48 gNw_X3_48 gNi_X3_48 gNs_X3_48 hd_X7_closes [] (by decide) rfl rfl rfl rfl ⟨Nat.zero_le _, Nat.zero_le _⟩ (Nat.le_of_ble_eq_true rfl) dX3_rowEnd_25 rfl [(a0, .inr (a0_ci, .ref a0_marks :: .int (iI a0_size) :: a0_fx)), (a0_marks, .inl (cs.1, a0_marksN, .inl (aI a0_marksF)))] rfl ?_
          refine jn_use (P := fun z5 => q_J D κ 5 0 0 [(a0, .inr (a0_ci, .ref a0_marks :: .int (iI a0_size) :: a0_fx)), (a0_marks, .inl (cs.1, a0_marksN, .inl (aI a0_marksF)))] [(3, .int (iI y3))] 38 []) h (fun z5 h => ?_) (fun k4 hk4 h => ?_)
          · refine j_iload_n (pc := 38) 0 ok dX3_rowEnd_38 rfl rfl ?_
            obtain rfl := Option.some.inj h
            exact fin _ 39 dX3_rowEnd_39
          · refine j_if_ne (pc := 28) 38 ok dX3_rowEnd_28 (by decide) h (fun h => ?_) (fun h => ?_)
            · refine j_lv [3] rfl ?_
              exact hk4 () h
            · refine j_iload (pc := 31) 0 ok dX3_rowEnd_31 rfl ?_
              refine j_bipush (pc := 33) ok dX3_rowEnd_33 (by decide) ?_
              refine j_icmp_ne (pc := 35) 40 ok dX3_rowEnd_35 (by decide) h (fun h => ?_) (fun h => ?_)
              · refine j_lv [1, 2, 3, 0] rfl ?_
                exact hk2 () h
              · refine j_lv [3] rfl ?_
                exact hk4 () h
def f_X3_rowEnd (a0_marksN : Nat) (a0_size : Int) (a0_marksF : (Nat → Int)) (x1 : Int) : Option (Int) := f_X3_rowEnd_4 a0_marksN a0_size a0_marksF (fun (z8 : Int × Int) => some a0_size) fuel 0 x1
set_option maxRecDepth 100000 in
set_option maxHeartbeats 4000000 in
theorem k_X3_rowEnd {D : va_G} {cs : q_CS} {a0 a0_marks : Nat} {a0_marksN : Nat} {a0_ci : Nat} {a0_fx : List Value} {a0_size : Int} {a0_marksF : (Nat → Int)} {x1 : Int} {r : (Int)} (ha0 : q_mk a0_ci a0_fx) (h : f_X3_rowEnd a0_marksN a0_size a0_marksF x1 = some r) : q_M D cs yX3_rowEnd cX3_rowEnd 5 (some .int) 1 21 [.ref a0, .int (iI x1)] [(a0, .inr (a0_ci, .ref a0_marks :: .int (iI a0_size) :: a0_fx)), (a0_marks, .inl (cs.1, a0_marksN, .inl (aI a0_marksF)))] (some (.int (iI r))) [(a0, .inr (a0_ci, .ref a0_marks :: .int (iI a0_size) :: a0_fx)), (a0_marks, .inl (cs.1, a0_marksN, .inl (aI a0_marksF)))] := by
  refine q_start_i [(0, .ref a0), (1, .int (iI x1))] RX3 rfl (by decide +kernel) rfl (Nat.le_of_ble_eq_true rfl) rfl (fun κ ok fin => ?_)
  unfold f_X3_rowEnd at h
  refine j_iconst (pc := 0) ok dX3_rowEnd_0 ?_
  refine j_istore_n (pc := 1) (lv' := [(2, .int (iI 0)), (0, .ref a0), (1, .int (iI x1))]) ok dX3_rowEnd_1 rfl (by decide) rfl ?_
  refine j_iload_n (pc := 2) 2 ok dX3_rowEnd_2 rfl rfl ?_
  refine j_istore_n (pc := 3) (lv' := [(3, .int (iI x1)), (2, .int (iI 0)), (0, .ref a0), (1, .int (iI x1))]) ok dX3_rowEnd_3 rfl (by decide) rfl ?_
  refine j_lv [2, 1, 0] rfl ?_
  refine l_X3_rowEnd_4 ha0 ok fin (fun z8 h => ?_) fuel _ _ h
  · refine j_aload_n (pc := 54) 0 ok dX3_rowEnd_54 rfl rfl ?_
    refine gm_X3_21 (pc := 55) 0 ok ha0 rfl dX3_rowEnd_55 ?_
    obtain rfl := Option.some.inj h
    exact fin _ 58 dX3_rowEnd_58
def f_X3_holder (a0_marksN : Nat) (a0_size : Int) (a0_marksF : (Nat → Int)) (x1 : Int) : Option (Int) := bd (f_X3_mark a0_marksN a0_size a0_marksF (x1 - 1)) (fun r1 => jn (fun (z4 : Int) => some z4) (fun k2 => cEq r1 6 (bd (f_X3_rowStart a0_marksN a0_size a0_marksF (x1 - 1)) (fun r3 => k2 (r3 - 1))) (k2 (x1 - 1))))
set_option maxRecDepth 100000 in
set_option maxHeartbeats 4000000 in
theorem k_X3_holder {D : va_G} {cs : q_CS} {a0 a0_marks : Nat} {a0_marksN : Nat} {a0_ci : Nat} {a0_fx : List Value} {a0_size : Int} {a0_marksF : (Nat → Int)} {x1 : Int} {r : (Int)} (ha0 : q_mk a0_ci a0_fx) (h : f_X3_holder a0_marksN a0_size a0_marksF x1 = some r) : q_M D cs yX3_holder cX3_holder 2 (some .int) 2 45 [.ref a0, .int (iI x1)] [(a0, .inr (a0_ci, .ref a0_marks :: .int (iI a0_size) :: a0_fx)), (a0_marks, .inl (cs.1, a0_marksN, .inl (aI a0_marksF)))] (some (.int (iI r))) [(a0, .inr (a0_ci, .ref a0_marks :: .int (iI a0_size) :: a0_fx)), (a0_marks, .inl (cs.1, a0_marksN, .inl (aI a0_marksF)))] := by
  refine q_start_i [(0, .ref a0), (1, .int (iI x1))] RX3 rfl (by decide +kernel) rfl (Nat.le_of_ble_eq_true rfl) rfl (fun κ ok fin => ?_)
  unfold f_X3_holder at h
  refine j_aload_n (pc := 0) 0 ok dX3_holder_0 rfl rfl ?_
  refine j_iload_n (pc := 1) 1 ok dX3_holder_1 rfl rfl ?_
  refine j_iconst (pc := 2) ok dX3_holder_2 ?_
  refine j_isub (pc := 3) ok dX3_holder_3 ?_
  obtain ⟨r1, hr1, h⟩ := bd_inv h
  refine j_callM (pc := 4) ok ha0 (k_X3_mark (a0 := a0) (a0_marks := a0_marks) (a0_ci := a0_ci) (a0_fx := a0_fx) (a0_marksN := a0_marksN) (a0_size := a0_size) (a0_marksF := a0_marksF) (x1 := x1 - 1) ha0 hr1) gU_X3_31 rfl hd_X3_mark gV_X3_31 ⟨rfl, hd_X3_mark⟩ [0, 1] (by decide) rfl rfl 0 rfl rfl rfl ⟨Nat.zero_le _, Nat.zero_le _⟩ (Nat.le_of_ble_eq_true rfl) dX3_holder_4 rfl [(a0, .inr (a0_ci, .ref a0_marks :: .int (iI a0_size) :: a0_fx)), (a0_marks, .inl (cs.1, a0_marksN, .inl (aI a0_marksF)))] rfl ?_
  refine j_bipush (pc := 7) ok dX3_holder_7 (by decide) ?_
  refine jn_use (P := fun z4 => q_J D κ 2 0 0 [(a0, .inr (a0_ci, .ref a0_marks :: .int (iI a0_size) :: a0_fx)), (a0_marks, .inl (cs.1, a0_marksN, .inl (aI a0_marksF)))] [] 27 [.int (iI z4)]) h (fun z4 h => ?_) (fun k2 hk2 h => ?_)
  · obtain rfl := Option.some.inj h
    exact fin _ 27 dX3_holder_27
  · refine j_icmp_ne (pc := 9) 24 ok dX3_holder_9 (by decide) h (fun h => ?_) (fun h => ?_)
    · refine j_iload_n (pc := 24) 1 ok dX3_holder_24 rfl rfl ?_
      refine j_iconst (pc := 25) ok dX3_holder_25 ?_
      refine j_isub (pc := 26) ok dX3_holder_26 ?_
      refine j_lv [] rfl ?_
      exact hk2 (x1 - 1) h
    · refine j_aload_n (pc := 12) 0 ok dX3_holder_12 rfl rfl ?_
      refine j_iload_n (pc := 13) 1 ok dX3_holder_13 rfl rfl ?_
      refine j_iconst (pc := 14) ok dX3_holder_14 ?_
      refine j_isub (pc := 15) ok dX3_holder_15 ?_
      obtain ⟨r3, hr3, h⟩ := bd_inv h
      refine j_callM (pc := 16) ok ha0 (k_X3_rowStart (a0 := a0) (a0_marks := a0_marks) (a0_ci := a0_ci) (a0_fx := a0_fx) (a0_marksN := a0_marksN) (a0_size := a0_size) (a0_marksF := a0_marksF) (x1 := x1 - 1) ha0 hr3) gU_X3_54 rfl hd_X3_rowStart gV_X3_54 ⟨rfl, hd_X3_rowStart⟩ [0, 1] (by decide) rfl rfl 0 rfl rfl rfl ⟨Nat.zero_le _, Nat.zero_le _⟩ (Nat.le_of_ble_eq_true rfl) dX3_holder_16 rfl [(a0, .inr (a0_ci, .ref a0_marks :: .int (iI a0_size) :: a0_fx)), (a0_marks, .inl (cs.1, a0_marksN, .inl (aI a0_marksF)))] rfl ?_
      refine j_iconst (pc := 19) ok dX3_holder_19 ?_
      refine j_isub (pc := 20) ok dX3_holder_20 ?_
      refine j_goto (pc := 21) 27 ok dX3_holder_21 (by decide) ?_
      refine j_lv [] rfl ?_
      exact hk2 (r3 - 1) h
def f_X0_growSelection (a0_size : Int) (a0_caret : Int) (a0_from : Int) (a0_marksF : (Nat → Int)) : Option (Int × Int × Int) := bd (f_X3_rowStart 180 a0_size a0_marksF a0_caret) (fun r1 => bd (f_X3_rowEnd 180 a0_size a0_marksF a0_caret) (fun r2 => bd (f_X0_hasSelection a0_caret a0_from) (fun r3 => jn (fun (z7 : Unit) => jn (fun (z11 : Int) => cEq z11 0 (bd (f_X0_chooseItems a0_caret a0_from r1 r2) (fun r15 => gB 1 (some (1, r15.1, r15.2)))) (cEq r1 0 (gB 0 (some (0, a0_caret, a0_from))) (bd (f_X3_holder 180 a0_size a0_marksF r1) (fun r12 => bd (f_X3_itemEnd 180 a0_size a0_marksF r12) (fun r13 => bd (f_X0_chooseItems a0_caret a0_from r12 r13) (fun r14 => gB 1 (some (1, r14.1, r14.2)))))))) (fun k9 => jn (fun (z10 : Unit) => k9 0) (fun k8 => cEq a0_from r1 (cEq a0_caret r2 (k9 1) (k8 ())) (k8 ())))) (fun k4 => cEq r3 0 (bd (f_X3_isBehindItem 180 a0_size a0_marksF a0_caret) (fun r5 => cEq r5 0 (k4 ()) (bd (f_X0_widenLeft a0_size a0_from a0_marksF) (fun r6 => gB r6.1 (some (r6.1, a0_caret, r6.2)))))) (k4 ())))))
set_option maxRecDepth 100000 in
set_option maxHeartbeats 4000000 in
theorem k_X0_growSelection {D : va_G} {cs : q_CS} {a0 a0_marks : Nat} {a0_size a0_caret a0_from : Int} {a0_marksF : (Nat → Int)} {r : (Int × Int × Int)} (h : f_X0_growSelection a0_size a0_caret a0_from a0_marksF = some r) : q_M D cs yX0_growSelection cX0_growSelection 5 (some .boolean) 3 66 [.ref a0] [(a0, .inr (0, [.ref a0_marks, .int (iI a0_size), .int (iI a0_caret), .int (iI a0_from)])), (a0_marks, .inl (cs.1, 180, .inl (aI a0_marksF)))] (some (.int (iI r.1))) [(a0, .inr (0, [.ref a0_marks, .int (iI a0_size), .int (iI r.2.1), .int (iI r.2.2)])), (a0_marks, .inl (cs.1, 180, .inl (aI a0_marksF)))] := by
  refine q_start_z [(0, .ref a0)] RX0 rfl (by decide +kernel) rfl (Nat.le_of_ble_eq_true rfl) (fun κ ok fin => ?_)
  unfold f_X0_growSelection at h
  refine j_aload_n (pc := 0) 0 ok dX0_growSelection_0 rfl rfl ?_
  refine j_aload_n (pc := 1) 0 ok dX0_growSelection_1 rfl rfl ?_
  refine gf_X0_19_0 (pc := 2) 0 ok rfl dX0_growSelection_2 ?_
  obtain ⟨r1, hr1, h⟩ := bd_inv h
  refine j_callU (pc := 5) ok (k_X3_rowStart (a0 := a0) (a0_marks := a0_marks) (a0_ci := 0) (a0_fx := [.int (iI a0_caret), .int (iI a0_from)]) (a0_marksN := 180) (a0_size := a0_size) (a0_marksF := a0_marksF) (x1 := a0_caret) (q_mk0 _ _) hr1) gU_X0_60 rfl hd_X3_rowStart [0, 1] (by decide) rfl rfl 0 rfl rfl rfl rfl ⟨Nat.zero_le _, Nat.zero_le _⟩ (Nat.le_of_ble_eq_true rfl) dX0_growSelection_5 rfl [(a0, .inr (0, [.ref a0_marks, .int (iI a0_size), .int (iI a0_caret), .int (iI a0_from)])), (a0_marks, .inl (cs.1, 180, .inl (aI a0_marksF)))] rfl ?_
  refine j_istore_n (pc := 8) (lv' := [(1, .int (iI r1)), (0, .ref a0)]) ok dX0_growSelection_8 rfl (by decide) rfl ?_
  refine j_aload_n (pc := 9) 1 ok dX0_growSelection_9 rfl rfl ?_
  refine j_aload_n (pc := 10) 1 ok dX0_growSelection_10 rfl rfl ?_
  refine gf_X0_19_0 (pc := 11) 0 ok rfl dX0_growSelection_11 ?_
  obtain ⟨r2, hr2, h⟩ := bd_inv h
  refine j_callU (pc := 14) ok (k_X3_rowEnd (a0 := a0) (a0_marks := a0_marks) (a0_ci := 0) (a0_fx := [.int (iI a0_caret), .int (iI a0_from)]) (a0_marksN := 180) (a0_size := a0_size) (a0_marksF := a0_marksF) (x1 := a0_caret) (q_mk0 _ _) hr2) gU_X0_63 rfl hd_X3_rowEnd [0, 1] (by decide) rfl rfl 0 rfl rfl rfl rfl ⟨Nat.zero_le _, Nat.zero_le _⟩ (Nat.le_of_ble_eq_true rfl) dX0_growSelection_14 rfl [(a0, .inr (0, [.ref a0_marks, .int (iI a0_size), .int (iI a0_caret), .int (iI a0_from)])), (a0_marks, .inl (cs.1, 180, .inl (aI a0_marksF)))] rfl ?_
  refine j_istore_n (pc := 17) (lv' := [(2, .int (iI r2)), (1, .int (iI r1)), (0, .ref a0)]) ok dX0_growSelection_17 rfl (by decide) rfl ?_
  refine j_aload_n (pc := 18) 2 ok dX0_growSelection_18 rfl rfl ?_
  obtain ⟨r3, hr3, h⟩ := bd_inv h
  refine j_callV (pc := 19) ok (k_X0_hasSelection (a0 := a0) (a0_marks := a0_marks) (a0_size := a0_size) (a0_caret := a0_caret) (a0_from := a0_from) hr3) gV_X0_66 ⟨rfl, hd_X0_hasSelection⟩ [0] (by decide) rfl rfl 0 rfl rfl rfl rfl ⟨Nat.zero_le _, Nat.zero_le _⟩ (Nat.le_of_ble_eq_true rfl) dX0_growSelection_19 rfl [(a0, .inr (0, [.ref a0_marks, .int (iI a0_size), .int (iI a0_caret), .int (iI a0_from)])), (a0_marks, .inl (cs.1, 180, .inl (aI a0_marksF)))] rfl ?_
  refine jn_use (P := fun z7 => q_J D κ 5 0 0 [(a0, .inr (0, [.ref a0_marks, .int (iI a0_size), .int (iI a0_caret), .int (iI a0_from)])), (a0_marks, .inl (cs.1, 180, .inl (aI a0_marksF)))] [(0, .ref a0), (1, .int (iI r1)), (2, .int (iI r2))] 41 []) h (fun z7 h => ?_) (fun k4 hk4 h => ?_)
  · refine j_aload_n (pc := 41) 0 ok dX0_growSelection_41 rfl rfl ?_
    refine gf_X0_22_0 (pc := 42) 0 ok rfl dX0_growSelection_42 ?_
    refine j_iload_n (pc := 45) 1 ok dX0_growSelection_45 rfl rfl ?_
    refine jn_use (P := fun z11 => q_J D κ 5 0 0 [(a0, .inr (0, [.ref a0_marks, .int (iI a0_size), .int (iI a0_caret), .int (iI a0_from)])), (a0_marks, .inl (cs.1, 180, .inl (aI a0_marksF)))] [(0, .ref a0), (1, .int (iI r1)), (2, .int (iI r2))] 62 [.int (iI z11)]) h (fun z11 h => ?_) (fun k9 hk9 h => ?_)
    · refine j_istore_n (pc := 62) (lv' := [(3, .int (iI z11)), (0, .ref a0), (1, .int (iI r1)), (2, .int (iI r2))]) ok dX0_growSelection_62 rfl (by decide) rfl ?_
      refine j_iload_n (pc := 63) 0 ok dX0_growSelection_63 rfl rfl ?_
      refine j_if_ne (pc := 64) 75 ok dX0_growSelection_64 (by decide) h (fun h => ?_) (fun h => ?_)
      · refine j_iload_n (pc := 75) 2 ok dX0_growSelection_75 rfl rfl ?_
        refine j_if_ne (pc := 76) 81 ok dX0_growSelection_76 (by decide) h (fun h => ?_) (fun h => ?_)
        · refine j_aload_n (pc := 81) 1 ok dX0_growSelection_81 rfl rfl ?_
          refine j_iload_n (pc := 82) 2 ok dX0_growSelection_82 rfl rfl ?_
          obtain ⟨r12, hr12, h⟩ := bd_inv h
          refine j_callU (pc := 83) ok (k_X3_holder (a0 := a0) (a0_marks := a0_marks) (a0_ci := 0) (a0_fx := [.int (iI a0_caret), .int (iI a0_from)]) (a0_marksN := 180) (a0_size := a0_size) (a0_marksF := a0_marksF) (x1 := r1) (q_mk0 _ _) hr12) gU_X0_77 rfl hd_X3_holder [0, 1] (by decide) rfl rfl 0 rfl rfl rfl rfl ⟨Nat.zero_le _, Nat.zero_le _⟩ (Nat.le_of_ble_eq_true rfl) dX0_growSelection_83 rfl [(a0, .inr (0, [.ref a0_marks, .int (iI a0_size), .int (iI a0_caret), .int (iI a0_from)])), (a0_marks, .inl (cs.1, 180, .inl (aI a0_marksF)))] rfl ?_
          refine j_istore (pc := 86) (lv' := [(4, .int (iI r12)), (3, .int (iI z11)), (0, .ref a0), (1, .int (iI r1)), (2, .int (iI r2))]) ok dX0_growSelection_86 (by decide) rfl ?_
          refine j_aload_n (pc := 88) 2 ok dX0_growSelection_88 rfl rfl ?_
          refine j_iload (pc := 89) 0 ok dX0_growSelection_89 rfl ?_
          refine j_aload_n (pc := 91) 2 ok dX0_growSelection_91 rfl rfl ?_
          refine j_iload (pc := 92) 0 ok dX0_growSelection_92 rfl ?_
          obtain ⟨r13, hr13, h⟩ := bd_inv h
          refine j_callU (pc := 94) ok (k_X3_itemEnd (a0 := a0) (a0_marks := a0_marks) (a0_ci := 0) (a0_fx := [.int (iI a0_caret), .int (iI a0_from)]) (a0_marksN := 180) (a0_size := a0_size) (a0_marksF := a0_marksF) (x1 := r12) (q_mk0 _ _) hr13) gU_X0_57 rfl hd_X3_itemEnd [0, 1] (by decide) rfl rfl 0 rfl rfl rfl rfl ⟨Nat.zero_le _, Nat.zero_le _⟩ (Nat.le_of_ble_eq_true rfl) dX0_growSelection_94 rfl [(a0, .inr (0, [.ref a0_marks, .int (iI a0_size), .int (iI a0_caret), .int (iI a0_from)])), (a0_marks, .inl (cs.1, 180, .inl (aI a0_marksF)))] rfl ?_
          obtain ⟨r14, hr14, h⟩ := bd_inv h
          refine j_callV (pc := 97) ok (k_X0_chooseItems (a0 := a0) (a0_marks := a0_marks) (a0_size := a0_size) (a0_caret := a0_caret) (a0_from := a0_from) (x1 := r12) (x2 := r13) hr14) gV_X0_73 ⟨rfl, hd_X0_chooseItems⟩ [0] (by decide) rfl rfl 0 rfl rfl rfl rfl ⟨Nat.zero_le _, Nat.zero_le _⟩ (Nat.le_of_ble_eq_true rfl) dX0_growSelection_97 rfl [(a0, .inr (0, [.ref a0_marks, .int (iI a0_size), .int (iI r14.1), .int (iI r14.2)])), (a0_marks, .inl (cs.1, 180, .inl (aI a0_marksF)))] rfl ?_
          refine j_iconst (pc := 100) ok dX0_growSelection_100 ?_
          obtain ⟨hbo, h⟩ := gB_inv h
          obtain rfl := Option.some.inj h
          exact fin _ 101 hbo dX0_growSelection_101
        · refine j_iconst (pc := 79) ok dX0_growSelection_79 ?_
          obtain ⟨hbo, h⟩ := gB_inv h
          obtain rfl := Option.some.inj h
          exact fin _ 80 hbo dX0_growSelection_80
      · refine j_aload_n (pc := 67) 1 ok dX0_growSelection_67 rfl rfl ?_
        refine j_iload_n (pc := 68) 2 ok dX0_growSelection_68 rfl rfl ?_
        refine j_iload_n (pc := 69) 3 ok dX0_growSelection_69 rfl rfl ?_
        obtain ⟨r15, hr15, h⟩ := bd_inv h
        refine j_callV (pc := 70) ok (k_X0_chooseItems (a0 := a0) (a0_marks := a0_marks) (a0_size := a0_size) (a0_caret := a0_caret) (a0_from := a0_from) (x1 := r1) (x2 := r2) hr15) gV_X0_73 ⟨rfl, hd_X0_chooseItems⟩ [0] (by decide) rfl rfl 0 rfl rfl rfl rfl ⟨Nat.zero_le _, Nat.zero_le _⟩ (Nat.le_of_ble_eq_true rfl) dX0_growSelection_70 rfl [(a0, .inr (0, [.ref a0_marks, .int (iI a0_size), .int (iI r15.1), .int (iI r15.2)])), (a0_marks, .inl (cs.1, 180, .inl (aI a0_marksF)))] rfl ?_
        refine j_iconst (pc := 73) ok dX0_growSelection_73 ?_
        obtain ⟨hbo, h⟩ := gB_inv h
        obtain rfl := Option.some.inj h
        exact fin _ 74 hbo dX0_growSelection_74
    · refine jn_use (P := fun z10 => q_J D κ 5 0 0 [(a0, .inr (0, [.ref a0_marks, .int (iI a0_size), .int (iI a0_caret), .int (iI a0_from)])), (a0_marks, .inl (cs.1, 180, .inl (aI a0_marksF)))] [(0, .ref a0), (1, .int (iI r1)), (2, .int (iI r2))] 61 []) h (fun z10 h => ?_) (fun k8 hk8 h => ?_)
      · refine j_iconst (pc := 61) ok dX0_growSelection_61 ?_
        exact hk9 0 h
      · refine j_icmp_ne (pc := 46) 61 ok dX0_growSelection_46 (by decide) h (fun h => ?_) (fun h => ?_)
        · exact hk8 () h
        · refine j_aload_n (pc := 49) 0 ok dX0_growSelection_49 rfl rfl ?_
          refine gf_X0_19_0 (pc := 50) 0 ok rfl dX0_growSelection_50 ?_
          refine j_iload_n (pc := 53) 2 ok dX0_growSelection_53 rfl rfl ?_
          refine j_icmp_ne (pc := 54) 61 ok dX0_growSelection_54 (by decide) h (fun h => ?_) (fun h => ?_)
          · exact hk8 () h
          · refine j_iconst (pc := 57) ok dX0_growSelection_57 ?_
            refine j_goto (pc := 58) 62 ok dX0_growSelection_58 (by decide) ?_
            exact hk9 1 h
  · refine j_if_ne (pc := 22) 41 ok dX0_growSelection_22 (by decide) h (fun h => ?_) (fun h => ?_)
    · refine j_lv [2, 1, 0] rfl ?_
      exact hk4 () h
    · refine j_aload_n (pc := 25) 2 ok dX0_growSelection_25 rfl rfl ?_
      refine j_aload_n (pc := 26) 2 ok dX0_growSelection_26 rfl rfl ?_
      refine gf_X0_19_0 (pc := 27) 0 ok rfl dX0_growSelection_27 ?_
      obtain ⟨r5, hr5, h⟩ := bd_inv h
      refine j_callU (pc := 30) ok (k_X3_isBehindItem (a0 := a0) (a0_marks := a0_marks) (a0_ci := 0) (a0_fx := [.int (iI a0_caret), .int (iI a0_from)]) (a0_marksN := 180) (a0_size := a0_size) (a0_marksF := a0_marksF) (x1 := a0_caret) (q_mk0 _ _) hr5) gU_X0_43 rfl hd_X3_isBehindItem [0, 1] (by decide) rfl rfl 0 rfl rfl rfl rfl ⟨Nat.zero_le _, Nat.zero_le _⟩ (Nat.le_of_ble_eq_true rfl) dX0_growSelection_30 rfl [(a0, .inr (0, [.ref a0_marks, .int (iI a0_size), .int (iI a0_caret), .int (iI a0_from)])), (a0_marks, .inl (cs.1, 180, .inl (aI a0_marksF)))] rfl ?_
      refine j_if_eq (pc := 33) 41 ok dX0_growSelection_33 (by decide) h (fun h => ?_) (fun h => ?_)
      · refine j_lv [2, 1, 0] rfl ?_
        exact hk4 () h
      · refine j_aload_n (pc := 36) 2 ok dX0_growSelection_36 rfl rfl ?_
        obtain ⟨r6, hr6, h⟩ := bd_inv h
        refine j_callV (pc := 37) ok (k_X0_widenLeft (a0 := a0) (a0_marks := a0_marks) (a0_size := a0_size) (a0_caret := a0_caret) (a0_from := a0_from) (a0_marksF := a0_marksF) hr6) gV_X0_70 ⟨rfl, hd_X0_widenLeft⟩ [0, 1] (by decide) rfl rfl 0 rfl rfl rfl rfl ⟨Nat.zero_le _, Nat.zero_le _⟩ (Nat.le_of_ble_eq_true rfl) dX0_growSelection_37 rfl [(a0, .inr (0, [.ref a0_marks, .int (iI a0_size), .int (iI a0_caret), .int (iI r6.2)])), (a0_marks, .inl (cs.1, 180, .inl (aI a0_marksF)))] rfl ?_
        obtain ⟨hbo, h⟩ := gB_inv h
        obtain rfl := Option.some.inj h
        exact fin _ 40 hbo dX0_growSelection_40
def f_X3_secondSlot_4 (a0_marksN : Nat) (a0_size : Int) (a0_marksF : (Nat → Int)) (e4_49 : Int × Int → Option (Int)) : Nat → Int → Int → Option (Int)
  | 0, _, _ => none
  | n + 1, y2, y3 => cLt y3 a0_size (bd (f_X3_mark a0_marksN a0_size a0_marksF y3) (fun r1 => jn (fun (z3 : Unit) => bd (f_X3_opening r1) (fun r4 => f_X3_secondSlot_4 a0_marksN a0_size a0_marksF e4_49 n (y2 + r4) (y3 + 1))) (fun k2 => cEq y2 1 (cEq r1 6 (some (y3 + 1)) (k2 ())) (k2 ())))) (e4_49 (y2, y3))
set_option maxRecDepth 100000 in
theorem l_X3_secondSlot_4 {D : va_G} {cs : q_CS} {κ : q_X} {a0 a0_marks : Nat} {a0_marksN : Nat} {a0_ci : Nat} {a0_fx : List Value} {a0_size : Int} {a0_marksF : (Nat → Int)} {r : (Int)} {e4_49 : Int × Int → Option (Int)} (ha0 : q_mk a0_ci a0_fx) (ok : q_ok D cs κ cX3_secondSlot 5 RX3 (q_rm 1 21)) (fin : ∀ (lv : List (Nat × Value)) (pc : Nat), decode cX3_secondSlot pc = .ok (.ireturn, 1) → q_J D κ 5 0 0 [(a0, .inr (a0_ci, .ref a0_marks :: .int (iI a0_size) :: a0_fx)), (a0_marks, .inl (cs.1, a0_marksN, .inl (aI a0_marksF)))] lv pc [.int (iI r)]) (he4_49 : ∀ x : Int × Int, e4_49 x = some r → q_J D κ 5 0 0 [(a0, .inr (a0_ci, .ref a0_marks :: .int (iI a0_size) :: a0_fx)), (a0_marks, .inl (cs.1, a0_marksN, .inl (aI a0_marksF)))] [(0, .ref a0)] 49 []) : ∀ (n : Nat) (y2 : Int) (y3 : Int), f_X3_secondSlot_4 a0_marksN a0_size a0_marksF e4_49 n y2 y3 = some r → q_J D κ 5 0 0 [(a0, .inr (a0_ci, .ref a0_marks :: .int (iI a0_size) :: a0_fx)), (a0_marks, .inl (cs.1, a0_marksN, .inl (aI a0_marksF)))] [(0, .ref a0), (2, .int (iI y2)), (3, .int (iI y3))] 4 [] := by
  intro n
  induction n with
  | zero =>
    intro y2 y3 h
    exact absurd h (by unfold f_X3_secondSlot_4; exact fun z => by cases z)
  | succ n ih =>
    intro y2 y3 h
    unfold f_X3_secondSlot_4 at h
    refine j_iload_n (pc := 4) 2 ok dX3_secondSlot_4 rfl rfl ?_
    refine j_aload_n (pc := 5) 0 ok dX3_secondSlot_5 rfl rfl ?_
    refine gm_X3_21 (pc := 6) 0 ok ha0 rfl dX3_secondSlot_6 ?_
    refine j_icmp_ge (pc := 9) 49 ok dX3_secondSlot_9 (by decide) h (fun h => ?_) (fun h => ?_)
    · refine j_lv [0] rfl ?_
      exact he4_49 (y2, y3) h
    · refine j_aload_n (pc := 12) 0 ok dX3_secondSlot_12 rfl rfl ?_
      refine j_iload_n (pc := 13) 2 ok dX3_secondSlot_13 rfl rfl ?_
      obtain ⟨r1, hr1, h⟩ := bd_inv h
      refine j_callM (pc := 14) ok ha0 (k_X3_mark (a0 := a0) (a0_marks := a0_marks) (a0_ci := a0_ci) (a0_fx := a0_fx) (a0_marksN := a0_marksN) (a0_size := a0_size) (a0_marksF := a0_marksF) (x1 := y3) ha0 hr1) gU_X3_31 rfl hd_X3_mark gV_X3_31 ⟨rfl, hd_X3_mark⟩ [0, 1] (by decide) rfl rfl 0 rfl rfl rfl ⟨Nat.zero_le _, Nat.zero_le _⟩ (Nat.le_of_ble_eq_true rfl) dX3_secondSlot_14 rfl [(a0, .inr (a0_ci, .ref a0_marks :: .int (iI a0_size) :: a0_fx)), (a0_marks, .inl (cs.1, a0_marksN, .inl (aI a0_marksF)))] rfl ?_
      refine j_istore (pc := 17) (lv' := [(4, .int (iI r1)), (0, .ref a0), (2, .int (iI y2)), (3, .int (iI y3))]) ok dX3_secondSlot_17 (by decide) rfl ?_
      refine j_iload_n (pc := 19) 2 ok dX3_secondSlot_19 rfl rfl ?_
      refine j_iconst (pc := 20) ok dX3_secondSlot_20 ?_
      refine jn_use (P := fun z3 => q_J D κ 5 0 0 [(a0, .inr (a0_ci, .ref a0_marks :: .int (iI a0_size) :: a0_fx)), (a0_marks, .inl (cs.1, a0_marksN, .inl (aI a0_marksF)))] [(0, .ref a0), (2, .int (iI y2)), (3, .int (iI y3)), (4, .int (iI r1))] 35 []) h (fun z3 h => ?_) (fun k2 hk2 h => ?_)
      · refine j_iload_n (pc := 35) 1 ok dX3_secondSlot_35 rfl rfl ?_
        refine j_iload (pc := 36) 3 ok dX3_secondSlot_36 rfl ?_
        obtain ⟨r4, hr4, h⟩ := bd_inv h
        refine j_callS (pc := 38) ok (k_X3_opening (x0 := r1) hr4) gS_X3_42 hd_X3_opening [] (by decide) rfl rfl rfl rfl ⟨Nat.zero_le _, Nat.zero_le _⟩ (Nat.le_of_ble_eq_true rfl) dX3_secondSlot_38 rfl [(a0, .inr (a0_ci, .ref a0_marks :: .int (iI a0_size) :: a0_fx)), (a0_marks, .inl (cs.1, a0_marksN, .inl (aI a0_marksF)))] rfl ?_
        refine j_iadd (pc := 41) ok dX3_secondSlot_41 ?_
        refine j_istore_n (pc := 42) (lv' := [(2, .int (iI (y2 + r4))), (0, .ref a0), (3, .int (iI y3)), (4, .int (iI r1))]) ok dX3_secondSlot_42 rfl (by decide) rfl ?_
        refine j_iinc (pc := 43) (lv' := [(3, .int (iI (y3 + 1))), (2, .int (iI (y2 + r4))), (0, .ref a0), (4, .int (iI r1))]) 2 ok dX3_secondSlot_43 rfl (by decide) rfl ?_
        refine j_goto (pc := 46) 4 ok dX3_secondSlot_46 (by decide) ?_
        refine j_lv [2, 1, 0] rfl ?_
        exact ih _ _ h
      · refine j_icmp_ne (pc := 21) 35 ok dX3_secondSlot_21 (by decide) h (fun h => ?_) (fun h => ?_)
        · refine j_lv [1, 2, 3, 0] rfl ?_
          exact hk2 () h
        · refine j_iload (pc := 24) 0 ok dX3_secondSlot_24 rfl ?_
          refine j_bipush (pc := 26) ok dX3_secondSlot_26 (by decide) ?_
          refine j_icmp_ne (pc := 28) 35 ok dX3_secondSlot_28 (by decide) h (fun h => ?_) (fun h => ?_)
          · refine j_lv [1, 2, 3, 0] rfl ?_
            exact hk2 () h
          · refine j_iload_n (pc := 31) 3 ok dX3_secondSlot_31 rfl rfl ?_
            refine j_iconst (pc := 32) ok dX3_secondSlot_32 ?_
            refine j_iadd (pc := 33) ok dX3_secondSlot_33 ?_
            obtain rfl := Option.some.inj h
            exact fin _ 34 dX3_secondSlot_34
def f_X3_secondSlot (a0_marksN : Nat) (a0_size : Int) (a0_marksF : (Nat → Int)) (x1 : Int) : Option (Int) := f_X3_secondSlot_4 a0_marksN a0_size a0_marksF (fun (z5 : Int × Int) => some a0_size) fuel 0 x1
set_option maxRecDepth 100000 in
set_option maxHeartbeats 4000000 in
theorem k_X3_secondSlot {D : va_G} {cs : q_CS} {a0 a0_marks : Nat} {a0_marksN : Nat} {a0_ci : Nat} {a0_fx : List Value} {a0_size : Int} {a0_marksF : (Nat → Int)} {x1 : Int} {r : (Int)} (ha0 : q_mk a0_ci a0_fx) (h : f_X3_secondSlot a0_marksN a0_size a0_marksF x1 = some r) : q_M D cs yX3_secondSlot cX3_secondSlot 5 (some .int) 1 21 [.ref a0, .int (iI x1)] [(a0, .inr (a0_ci, .ref a0_marks :: .int (iI a0_size) :: a0_fx)), (a0_marks, .inl (cs.1, a0_marksN, .inl (aI a0_marksF)))] (some (.int (iI r))) [(a0, .inr (a0_ci, .ref a0_marks :: .int (iI a0_size) :: a0_fx)), (a0_marks, .inl (cs.1, a0_marksN, .inl (aI a0_marksF)))] := by
  refine q_start_i [(0, .ref a0), (1, .int (iI x1))] RX3 rfl (by decide +kernel) rfl (Nat.le_of_ble_eq_true rfl) rfl (fun κ ok fin => ?_)
  unfold f_X3_secondSlot at h
  refine j_iconst (pc := 0) ok dX3_secondSlot_0 ?_
  refine j_istore_n (pc := 1) (lv' := [(2, .int (iI 0)), (0, .ref a0), (1, .int (iI x1))]) ok dX3_secondSlot_1 rfl (by decide) rfl ?_
  refine j_iload_n (pc := 2) 2 ok dX3_secondSlot_2 rfl rfl ?_
  refine j_istore_n (pc := 3) (lv' := [(3, .int (iI x1)), (2, .int (iI 0)), (0, .ref a0), (1, .int (iI x1))]) ok dX3_secondSlot_3 rfl (by decide) rfl ?_
  refine j_lv [2, 1, 0] rfl ?_
  refine l_X3_secondSlot_4 ha0 ok fin (fun z5 h => ?_) fuel _ _ h
  · refine j_aload_n (pc := 49) 0 ok dX3_secondSlot_49 rfl rfl ?_
    refine gm_X3_21 (pc := 50) 0 ok ha0 rfl dX3_secondSlot_50 ?_
    obtain rfl := Option.some.inj h
    exact fin _ 53 dX3_secondSlot_53
def f_X0_behindItems_5 (a0_size : Int) (a0_marksF : (Nat → Int)) (y2 : Int) (e5_34 : Int × Int → Option (Int)) : Nat → Int → Int → Option (Int)
  | 0, _, _ => none
  | n + 1, y3, y4 => cLt y4 y2 (bd (f_X3_mark 180 a0_size a0_marksF y3) (fun r1 => bd (f_X7_startsItem r1) (fun r2 => cEq r2 0 (e5_34 (y3, y4)) (bd (f_X3_itemEnd 180 a0_size a0_marksF y3) (fun r3 => f_X0_behindItems_5 a0_size a0_marksF y2 e5_34 n r3 (y4 + 1)))))) (e5_34 (y3, y4))
set_option maxRecDepth 100000 in
theorem l_X0_behindItems_5 {D : va_G} {cs : q_CS} {κ : q_X} {a0 a0_marks : Nat} {a0_size a0_caret a0_from : Int} {a0_marksF : (Nat → Int)} {y2 : Int} {r : (Int)} {e5_34 : Int × Int → Option (Int)} (ok : q_ok D cs κ cX0_behindItems 5 RX0 (q_rm 2 44)) (fin : ∀ (lv : List (Nat × Value)) (pc : Nat), decode cX0_behindItems pc = .ok (.ireturn, 1) → q_J D κ 5 0 0 [(a0, .inr (0, [.ref a0_marks, .int (iI a0_size), .int (iI a0_caret), .int (iI a0_from)])), (a0_marks, .inl (cs.1, 180, .inl (aI a0_marksF)))] lv pc [.int (iI r)]) (he5_34 : ∀ x : Int × Int, e5_34 x = some r → q_J D κ 5 0 0 [(a0, .inr (0, [.ref a0_marks, .int (iI a0_size), .int (iI a0_caret), .int (iI a0_from)])), (a0_marks, .inl (cs.1, 180, .inl (aI a0_marksF)))] [(3, .int (iI x.1))] 34 []) : ∀ (n : Nat) (y3 : Int) (y4 : Int), f_X0_behindItems_5 a0_size a0_marksF y2 e5_34 n y3 y4 = some r → q_J D κ 5 0 0 [(a0, .inr (0, [.ref a0_marks, .int (iI a0_size), .int (iI a0_caret), .int (iI a0_from)])), (a0_marks, .inl (cs.1, 180, .inl (aI a0_marksF)))] [(0, .ref a0), (2, .int (iI y2)), (3, .int (iI y3)), (4, .int (iI y4))] 5 [] := by
  intro n
  induction n with
  | zero =>
    intro y3 y4 h
    exact absurd h (by unfold f_X0_behindItems_5; exact fun z => by cases z)
  | succ n ih =>
    intro y3 y4 h
    unfold f_X0_behindItems_5 at h
    refine j_iload (pc := 5) 3 ok dX0_behindItems_5 rfl ?_
    refine j_iload_n (pc := 7) 1 ok dX0_behindItems_7 rfl rfl ?_
    refine j_icmp_ge (pc := 8) 34 ok dX0_behindItems_8 (by decide) h (fun h => ?_) (fun h => ?_)
    · refine j_lv [2] rfl ?_
      exact he5_34 (y3, y4) h
    · refine j_aload_n (pc := 11) 0 ok dX0_behindItems_11 rfl rfl ?_
      refine j_iload_n (pc := 12) 2 ok dX0_behindItems_12 rfl rfl ?_
      obtain ⟨r1, hr1, h⟩ := bd_inv h
      refine j_callU (pc := 13) ok (k_X3_mark (a0 := a0) (a0_marks := a0_marks) (a0_ci := 0) (a0_fx := [.int (iI a0_caret), .int (iI a0_from)]) (a0_marksN := 180) (a0_size := a0_size) (a0_marksF := a0_marksF) (x1 := y3) (q_mk0 _ _) hr1) gU_X0_51 rfl hd_X3_mark [0, 1] (by decide) rfl rfl 0 rfl rfl rfl rfl ⟨Nat.zero_le _, Nat.zero_le _⟩ (Nat.le_of_ble_eq_true rfl) dX0_behindItems_13 rfl [(a0, .inr (0, [.ref a0_marks, .int (iI a0_size), .int (iI a0_caret), .int (iI a0_from)])), (a0_marks, .inl (cs.1, 180, .inl (aI a0_marksF)))] rfl ?_
      obtain ⟨r2, hr2, h⟩ := bd_inv h
      refine j_callN (pc := 16) ok (k_X7_startsItem (x0 := r1) hr2) gN_X0_54 gNw_X0_54 gNi_X0_54 gNs_X0_54 hd_X7_startsItem [] (by decide) rfl rfl rfl rfl ⟨Nat.zero_le _, Nat.zero_le _⟩ (Nat.le_of_ble_eq_true rfl) dX0_behindItems_16 rfl [(a0, .inr (0, [.ref a0_marks, .int (iI a0_size), .int (iI a0_caret), .int (iI a0_from)])), (a0_marks, .inl (cs.1, 180, .inl (aI a0_marksF)))] rfl ?_
      refine j_if_eq (pc := 19) 34 ok dX0_behindItems_19 (by decide) h (fun h => ?_) (fun h => ?_)
      · refine j_lv [2] rfl ?_
        exact he5_34 (y3, y4) h
      · refine j_aload_n (pc := 22) 0 ok dX0_behindItems_22 rfl rfl ?_
        refine j_iload_n (pc := 23) 2 ok dX0_behindItems_23 rfl rfl ?_
        obtain ⟨r3, hr3, h⟩ := bd_inv h
        refine j_callU (pc := 24) ok (k_X3_itemEnd (a0 := a0) (a0_marks := a0_marks) (a0_ci := 0) (a0_fx := [.int (iI a0_caret), .int (iI a0_from)]) (a0_marksN := 180) (a0_size := a0_size) (a0_marksF := a0_marksF) (x1 := y3) (q_mk0 _ _) hr3) gU_X0_57 rfl hd_X3_itemEnd [0, 1] (by decide) rfl rfl 0 rfl rfl rfl rfl ⟨Nat.zero_le _, Nat.zero_le _⟩ (Nat.le_of_ble_eq_true rfl) dX0_behindItems_24 rfl [(a0, .inr (0, [.ref a0_marks, .int (iI a0_size), .int (iI a0_caret), .int (iI a0_from)])), (a0_marks, .inl (cs.1, 180, .inl (aI a0_marksF)))] rfl ?_
        refine j_istore_n (pc := 27) (lv' := [(3, .int (iI r3)), (0, .ref a0), (2, .int (iI y2)), (4, .int (iI y4))]) ok dX0_behindItems_27 rfl (by decide) rfl ?_
        refine j_iinc (pc := 28) (lv' := [(4, .int (iI (y4 + 1))), (3, .int (iI r3)), (0, .ref a0), (2, .int (iI y2))]) 3 ok dX0_behindItems_28 rfl (by decide) rfl ?_
        refine j_goto (pc := 31) 5 ok dX0_behindItems_31 (by decide) ?_
        refine j_lv [2, 3, 1, 0] rfl ?_
        exact ih _ _ h
def f_X0_behindItems (a0_size : Int) (a0_marksF : (Nat → Int)) (x1 : Int) (x2 : Int) : Option (Int) := f_X0_behindItems_5 a0_size a0_marksF x2 (fun (z4 : Int × Int) => some z4.1) fuel x1 0
set_option maxRecDepth 100000 in
set_option maxHeartbeats 4000000 in
theorem k_X0_behindItems {D : va_G} {cs : q_CS} {a0 a0_marks : Nat} {a0_size a0_caret a0_from : Int} {a0_marksF : (Nat → Int)} {x1 x2 : Int} {r : (Int)} (h : f_X0_behindItems a0_size a0_marksF x1 x2 = some r) : q_M D cs yX0_behindItems cX0_behindItems 5 (some .int) 2 44 [.ref a0, .int (iI x1), .int (iI x2)] [(a0, .inr (0, [.ref a0_marks, .int (iI a0_size), .int (iI a0_caret), .int (iI a0_from)])), (a0_marks, .inl (cs.1, 180, .inl (aI a0_marksF)))] (some (.int (iI r))) [(a0, .inr (0, [.ref a0_marks, .int (iI a0_size), .int (iI a0_caret), .int (iI a0_from)])), (a0_marks, .inl (cs.1, 180, .inl (aI a0_marksF)))] := by
  refine q_start_i [(0, .ref a0), (1, .int (iI x1)), (2, .int (iI x2))] RX0 rfl (by decide +kernel) rfl (Nat.le_of_ble_eq_true rfl) rfl (fun κ ok fin => ?_)
  unfold f_X0_behindItems at h
  refine j_iload_n (pc := 0) 1 ok dX0_behindItems_0 rfl rfl ?_
  refine j_istore_n (pc := 1) (lv' := [(3, .int (iI x1)), (0, .ref a0), (1, .int (iI x1)), (2, .int (iI x2))]) ok dX0_behindItems_1 rfl (by decide) rfl ?_
  refine j_iconst (pc := 2) ok dX0_behindItems_2 ?_
  refine j_istore (pc := 3) (lv' := [(4, .int (iI 0)), (3, .int (iI x1)), (0, .ref a0), (1, .int (iI x1)), (2, .int (iI x2))]) ok dX0_behindItems_3 (by decide) rfl ?_
  refine j_lv [2, 4, 1, 0] rfl ?_
  refine l_X0_behindItems_5 ok fin (fun z4 h => ?_) fuel _ _ h
  · refine j_iload_n (pc := 34) 0 ok dX0_behindItems_34 rfl rfl ?_
    obtain rfl := Option.some.inj h
    exact fin _ 35 dX0_behindItems_35
def f_X0_goalInFraction_7 (a0_size : Int) (a0_caret : Int) (a0_marksF : (Nat → Int)) (y1 : Int) (e7_113 : Int × Int → Option (Int)) : Nat → Int → Int → Option (Int)
  | 0, _, _ => none
  | n + 1, y2, y3 => cLt 5 y3 (e7_113 (y2, y3)) (bd (f_X3_rowStart 180 a0_size a0_marksF y2) (fun r1 => cEq r1 0 (some ((-9))) (bd (f_X3_holder 180 a0_size a0_marksF r1) (fun r2 => bd (f_X3_mark 180 a0_size a0_marksF (r1 - 1)) (fun r3 => jn (fun (z5 : Int) => bd (f_X3_mark 180 a0_size a0_marksF r2) (fun r6 => jn (fun (z13 : Unit) => f_X0_goalInFraction_7 a0_size a0_caret a0_marksF y1 e7_113 n r2 (y3 + 1)) (fun k7 => cEq r6 1 (cEq z5 y1 (jn (fun (z10 : Int) => bd (f_X3_rowItems 180 a0_size a0_marksF r1 y2) (fun r11 => bd (f_X0_behindItems a0_size a0_marksF z10 r11) (fun r12 => some r12))) (fun k8 => cEq y1 0 (bd (f_X3_secondSlot 180 a0_size a0_marksF r2) (fun r9 => k8 r9)) (k8 (r2 + 1)))) (k7 ())) (k7 ())))) (fun k4 => cEq r3 6 (k4 1) (k4 0)))))))
set_option maxRecDepth 100000 in
theorem l_X0_goalInFraction_7 {D : va_G} {cs : q_CS} {κ : q_X} {a0 a0_marks : Nat} {a0_size a0_caret a0_from : Int} {a0_marksF : (Nat → Int)} {y1 : Int} {r : (Int)} {e7_113 : Int × Int → Option (Int)} (ok : q_ok D cs κ cX0_goalInFraction 8 RX0 (q_rm 3 68)) (fin : ∀ (lv : List (Nat × Value)) (pc : Nat), decode cX0_goalInFraction pc = .ok (.ireturn, 1) → q_J D κ 8 0 0 [(a0, .inr (0, [.ref a0_marks, .int (iI a0_size), .int (iI a0_caret), .int (iI a0_from)])), (a0_marks, .inl (cs.1, 180, .inl (aI a0_marksF)))] lv pc [.int (iI r)]) (he7_113 : ∀ x : Int × Int, e7_113 x = some r → q_J D κ 8 0 0 [(a0, .inr (0, [.ref a0_marks, .int (iI a0_size), .int (iI a0_caret), .int (iI a0_from)])), (a0_marks, .inl (cs.1, 180, .inl (aI a0_marksF)))] [] 113 []) : ∀ (n : Nat) (y2 : Int) (y3 : Int), f_X0_goalInFraction_7 a0_size a0_caret a0_marksF y1 e7_113 n y2 y3 = some r → q_J D κ 8 0 0 [(a0, .inr (0, [.ref a0_marks, .int (iI a0_size), .int (iI a0_caret), .int (iI a0_from)])), (a0_marks, .inl (cs.1, 180, .inl (aI a0_marksF)))] [(0, .ref a0), (1, .int (iI y1)), (2, .int (iI y2)), (3, .int (iI y3))] 7 [] := by
  intro n
  induction n with
  | zero =>
    intro y2 y3 h
    exact absurd h (by unfold f_X0_goalInFraction_7; exact fun z => by cases z)
  | succ n ih =>
    intro y2 y3 h
    unfold f_X0_goalInFraction_7 at h
    refine j_iload_n (pc := 7) 3 ok dX0_goalInFraction_7 rfl rfl ?_
    refine j_iconst (pc := 8) ok dX0_goalInFraction_8 ?_
    refine j_icmp_gt (pc := 9) 113 ok dX0_goalInFraction_9 (by decide) h (fun h => ?_) (fun h => ?_)
    · refine j_lv [] rfl ?_
      exact he7_113 (y2, y3) h
    · refine j_aload_n (pc := 12) 0 ok dX0_goalInFraction_12 rfl rfl ?_
      refine j_iload_n (pc := 13) 2 ok dX0_goalInFraction_13 rfl rfl ?_
      obtain ⟨r1, hr1, h⟩ := bd_inv h
      refine j_callU (pc := 14) ok (k_X3_rowStart (a0 := a0) (a0_marks := a0_marks) (a0_ci := 0) (a0_fx := [.int (iI a0_caret), .int (iI a0_from)]) (a0_marksN := 180) (a0_size := a0_size) (a0_marksF := a0_marksF) (x1 := y2) (q_mk0 _ _) hr1) gU_X0_60 rfl hd_X3_rowStart [0, 1] (by decide) rfl rfl 0 rfl rfl rfl rfl ⟨Nat.zero_le _, Nat.zero_le _⟩ (Nat.le_of_ble_eq_true rfl) dX0_goalInFraction_14 rfl [(a0, .inr (0, [.ref a0_marks, .int (iI a0_size), .int (iI a0_caret), .int (iI a0_from)])), (a0_marks, .inl (cs.1, 180, .inl (aI a0_marksF)))] rfl ?_
      refine j_istore (pc := 17) (lv' := [(4, .int (iI r1)), (0, .ref a0), (1, .int (iI y1)), (2, .int (iI y2)), (3, .int (iI y3))]) ok dX0_goalInFraction_17 (by decide) rfl ?_
      refine j_iload (pc := 19) 0 ok dX0_goalInFraction_19 rfl ?_
      refine j_if_ne (pc := 21) 27 ok dX0_goalInFraction_21 (by decide) h (fun h => ?_) (fun h => ?_)
      · refine j_aload_n (pc := 27) 1 ok dX0_goalInFraction_27 rfl rfl ?_
        refine j_iload (pc := 28) 0 ok dX0_goalInFraction_28 rfl ?_
        obtain ⟨r2, hr2, h⟩ := bd_inv h
        refine j_callU (pc := 30) ok (k_X3_holder (a0 := a0) (a0_marks := a0_marks) (a0_ci := 0) (a0_fx := [.int (iI a0_caret), .int (iI a0_from)]) (a0_marksN := 180) (a0_size := a0_size) (a0_marksF := a0_marksF) (x1 := r1) (q_mk0 _ _) hr2) gU_X0_77 rfl hd_X3_holder [0, 1] (by decide) rfl rfl 0 rfl rfl rfl rfl ⟨Nat.zero_le _, Nat.zero_le _⟩ (Nat.le_of_ble_eq_true rfl) dX0_goalInFraction_30 rfl [(a0, .inr (0, [.ref a0_marks, .int (iI a0_size), .int (iI a0_caret), .int (iI a0_from)])), (a0_marks, .inl (cs.1, 180, .inl (aI a0_marksF)))] rfl ?_
        refine j_istore (pc := 33) (lv' := [(5, .int (iI r2)), (4, .int (iI r1)), (0, .ref a0), (1, .int (iI y1)), (2, .int (iI y2)), (3, .int (iI y3))]) ok dX0_goalInFraction_33 (by decide) rfl ?_
        refine j_aload_n (pc := 35) 2 ok dX0_goalInFraction_35 rfl rfl ?_
        refine j_iload (pc := 36) 1 ok dX0_goalInFraction_36 rfl ?_
        refine j_iconst (pc := 38) ok dX0_goalInFraction_38 ?_
        refine j_isub (pc := 39) ok dX0_goalInFraction_39 ?_
        obtain ⟨r3, hr3, h⟩ := bd_inv h
        refine j_callU (pc := 40) ok (k_X3_mark (a0 := a0) (a0_marks := a0_marks) (a0_ci := 0) (a0_fx := [.int (iI a0_caret), .int (iI a0_from)]) (a0_marksN := 180) (a0_size := a0_size) (a0_marksF := a0_marksF) (x1 := r1 - 1) (q_mk0 _ _) hr3) gU_X0_51 rfl hd_X3_mark [0, 1] (by decide) rfl rfl 0 rfl rfl rfl rfl ⟨Nat.zero_le _, Nat.zero_le _⟩ (Nat.le_of_ble_eq_true rfl) dX0_goalInFraction_40 rfl [(a0, .inr (0, [.ref a0_marks, .int (iI a0_size), .int (iI a0_caret), .int (iI a0_from)])), (a0_marks, .inl (cs.1, 180, .inl (aI a0_marksF)))] rfl ?_
        refine j_bipush (pc := 43) ok dX0_goalInFraction_43 (by decide) ?_
        refine jn_use (P := fun z5 => q_J D κ 8 0 0 [(a0, .inr (0, [.ref a0_marks, .int (iI a0_size), .int (iI a0_caret), .int (iI a0_from)])), (a0_marks, .inl (cs.1, 180, .inl (aI a0_marksF)))] [(0, .ref a0), (1, .int (iI y1)), (2, .int (iI y2)), (3, .int (iI y3)), (4, .int (iI r1)), (5, .int (iI r2))] 53 [.int (iI z5)]) h (fun z5 h => ?_) (fun k4 hk4 h => ?_)
        · refine j_istore (pc := 53) (lv' := [(6, .int (iI z5)), (0, .ref a0), (1, .int (iI y1)), (2, .int (iI y2)), (3, .int (iI y3)), (4, .int (iI r1)), (5, .int (iI r2))]) ok dX0_goalInFraction_53 (by decide) rfl ?_
          refine j_aload_n (pc := 55) 1 ok dX0_goalInFraction_55 rfl rfl ?_
          refine j_iload (pc := 56) 6 ok dX0_goalInFraction_56 rfl ?_
          obtain ⟨r6, hr6, h⟩ := bd_inv h
          refine j_callU (pc := 58) ok (k_X3_mark (a0 := a0) (a0_marks := a0_marks) (a0_ci := 0) (a0_fx := [.int (iI a0_caret), .int (iI a0_from)]) (a0_marksN := 180) (a0_size := a0_size) (a0_marksF := a0_marksF) (x1 := r2) (q_mk0 _ _) hr6) gU_X0_51 rfl hd_X3_mark [0, 1] (by decide) rfl rfl 0 rfl rfl rfl rfl ⟨Nat.zero_le _, Nat.zero_le _⟩ (Nat.le_of_ble_eq_true rfl) dX0_goalInFraction_58 rfl [(a0, .inr (0, [.ref a0_marks, .int (iI a0_size), .int (iI a0_caret), .int (iI a0_from)])), (a0_marks, .inl (cs.1, 180, .inl (aI a0_marksF)))] rfl ?_
          refine j_iconst (pc := 61) ok dX0_goalInFraction_61 ?_
          refine jn_use (P := fun z13 => q_J D κ 8 0 0 [(a0, .inr (0, [.ref a0_marks, .int (iI a0_size), .int (iI a0_caret), .int (iI a0_from)])), (a0_marks, .inl (cs.1, 180, .inl (aI a0_marksF)))] [(0, .ref a0), (1, .int (iI y1)), (3, .int (iI y3)), (5, .int (iI r2))] 104 []) h (fun z13 h => ?_) (fun k7 hk7 h => ?_)
          · refine j_iload (pc := 104) 3 ok dX0_goalInFraction_104 rfl ?_
            refine j_istore_n (pc := 106) (lv' := [(2, .int (iI r2)), (0, .ref a0), (1, .int (iI y1)), (3, .int (iI y3)), (5, .int (iI r2))]) ok dX0_goalInFraction_106 rfl (by decide) rfl ?_
            refine j_iinc (pc := 107) (lv' := [(3, .int (iI (y3 + 1))), (2, .int (iI r2)), (0, .ref a0), (1, .int (iI y1)), (5, .int (iI r2))]) 3 ok dX0_goalInFraction_107 rfl (by decide) rfl ?_
            refine j_goto (pc := 110) 7 ok dX0_goalInFraction_110 (by decide) ?_
            refine j_lv [2, 3, 1, 0] rfl ?_
            exact ih _ _ h
          · refine j_icmp_ne (pc := 62) 104 ok dX0_goalInFraction_62 (by decide) h (fun h => ?_) (fun h => ?_)
            · refine j_lv [1, 2, 4, 6] rfl ?_
              exact hk7 () h
            · refine j_iload (pc := 65) 0 ok dX0_goalInFraction_65 rfl ?_
              refine j_iload_n (pc := 67) 2 ok dX0_goalInFraction_67 rfl rfl ?_
              refine j_icmp_ne (pc := 68) 104 ok dX0_goalInFraction_68 (by decide) h (fun h => ?_) (fun h => ?_)
              · refine j_lv [1, 2, 4, 6] rfl ?_
                exact hk7 () h
              · refine j_iload_n (pc := 71) 2 ok dX0_goalInFraction_71 rfl rfl ?_
                refine jn_use (P := fun z10 => q_J D κ 8 0 0 [(a0, .inr (0, [.ref a0_marks, .int (iI a0_size), .int (iI a0_caret), .int (iI a0_from)])), (a0_marks, .inl (cs.1, 180, .inl (aI a0_marksF)))] [(0, .ref a0), (2, .int (iI y2)), (4, .int (iI r1))] 88 [.int (iI z10)]) h (fun z10 h => ?_) (fun k8 hk8 h => ?_)
                · refine j_istore (pc := 88) (lv' := [(7, .int (iI z10)), (0, .ref a0), (2, .int (iI y2)), (4, .int (iI r1))]) ok dX0_goalInFraction_88 (by decide) rfl ?_
                  refine j_aload_n (pc := 90) 1 ok dX0_goalInFraction_90 rfl rfl ?_
                  refine j_iload (pc := 91) 0 ok dX0_goalInFraction_91 rfl ?_
                  refine j_aload_n (pc := 93) 1 ok dX0_goalInFraction_93 rfl rfl ?_
                  refine j_iload (pc := 94) 3 ok dX0_goalInFraction_94 rfl ?_
                  refine j_iload_n (pc := 96) 2 ok dX0_goalInFraction_96 rfl rfl ?_
                  obtain ⟨r11, hr11, h⟩ := bd_inv h
                  refine j_callU (pc := 97) ok (k_X3_rowItems (a0 := a0) (a0_marks := a0_marks) (a0_ci := 0) (a0_fx := [.int (iI a0_caret), .int (iI a0_from)]) (a0_marksN := 180) (a0_size := a0_size) (a0_marksF := a0_marksF) (x1 := r1) (x2 := y2) (q_mk0 _ _) hr11) gU_X0_25 rfl hd_X3_rowItems [0, 1] (by decide) rfl rfl 0 rfl rfl rfl rfl ⟨Nat.zero_le _, Nat.zero_le _⟩ (Nat.le_of_ble_eq_true rfl) dX0_goalInFraction_97 rfl [(a0, .inr (0, [.ref a0_marks, .int (iI a0_size), .int (iI a0_caret), .int (iI a0_from)])), (a0_marks, .inl (cs.1, 180, .inl (aI a0_marksF)))] rfl ?_
                  obtain ⟨r12, hr12, h⟩ := bd_inv h
                  refine j_callV (pc := 100) ok (k_X0_behindItems (a0 := a0) (a0_marks := a0_marks) (a0_size := a0_size) (a0_caret := a0_caret) (a0_from := a0_from) (a0_marksF := a0_marksF) (x1 := z10) (x2 := r11) hr12) gV_X0_90 ⟨rfl, hd_X0_behindItems⟩ [0, 1] (by decide) rfl rfl 0 rfl rfl rfl rfl ⟨Nat.zero_le _, Nat.zero_le _⟩ (Nat.le_of_ble_eq_true rfl) dX0_goalInFraction_100 rfl [(a0, .inr (0, [.ref a0_marks, .int (iI a0_size), .int (iI a0_caret), .int (iI a0_from)])), (a0_marks, .inl (cs.1, 180, .inl (aI a0_marksF)))] rfl ?_
                  obtain rfl := Option.some.inj h
                  exact fin _ 103 dX0_goalInFraction_103
                · refine j_if_eq (pc := 72) 82 ok dX0_goalInFraction_72 (by decide) h (fun h => ?_) (fun h => ?_)
                  · refine j_aload_n (pc := 82) 1 ok dX0_goalInFraction_82 rfl rfl ?_
                    refine j_iload (pc := 83) 6 ok dX0_goalInFraction_83 rfl ?_
                    obtain ⟨r9, hr9, h⟩ := bd_inv h
                    refine j_callU (pc := 85) ok (k_X3_secondSlot (a0 := a0) (a0_marks := a0_marks) (a0_ci := 0) (a0_fx := [.int (iI a0_caret), .int (iI a0_from)]) (a0_marksN := 180) (a0_size := a0_size) (a0_marksF := a0_marksF) (x1 := r2) (q_mk0 _ _) hr9) gU_X0_87 rfl hd_X3_secondSlot [0, 1] (by decide) rfl rfl 0 rfl rfl rfl rfl ⟨Nat.zero_le _, Nat.zero_le _⟩ (Nat.le_of_ble_eq_true rfl) dX0_goalInFraction_85 rfl [(a0, .inr (0, [.ref a0_marks, .int (iI a0_size), .int (iI a0_caret), .int (iI a0_from)])), (a0_marks, .inl (cs.1, 180, .inl (aI a0_marksF)))] rfl ?_
                    refine j_lv [1, 3, 5] rfl ?_
                    exact hk8 r9 h
                  · refine j_iload (pc := 75) 6 ok dX0_goalInFraction_75 rfl ?_
                    refine j_iconst (pc := 77) ok dX0_goalInFraction_77 ?_
                    refine j_iadd (pc := 78) ok dX0_goalInFraction_78 ?_
                    refine j_goto (pc := 79) 88 ok dX0_goalInFraction_79 (by decide) ?_
                    refine j_lv [1, 3, 5] rfl ?_
                    exact hk8 (r2 + 1) h
        · refine j_icmp_ne (pc := 45) 52 ok dX0_goalInFraction_45 (by decide) h (fun h => ?_) (fun h => ?_)
          · refine j_iconst (pc := 52) ok dX0_goalInFraction_52 ?_
            refine j_lv [2, 3, 4, 5, 1, 0] rfl ?_
            exact hk4 0 h
          · refine j_iconst (pc := 48) ok dX0_goalInFraction_48 ?_
            refine j_goto (pc := 49) 53 ok dX0_goalInFraction_49 (by decide) ?_
            refine j_lv [2, 3, 4, 5, 1, 0] rfl ?_
            exact hk4 1 h
      · refine j_bipush (pc := 24) ok dX0_goalInFraction_24 (by decide) ?_
        obtain rfl := Option.some.inj h
        exact fin _ 26 dX0_goalInFraction_26
def f_X0_goalInFraction (a0_size : Int) (a0_caret : Int) (a0_marksF : (Nat → Int)) (x1 : Int) : Option (Int) := f_X0_goalInFraction_7 a0_size a0_caret a0_marksF x1 (fun (z14 : Int × Int) => some ((-9))) fuel a0_caret 0
set_option maxRecDepth 100000 in
set_option maxHeartbeats 4000000 in
theorem k_X0_goalInFraction {D : va_G} {cs : q_CS} {a0 a0_marks : Nat} {a0_size a0_caret a0_from : Int} {a0_marksF : (Nat → Int)} {x1 : Int} {r : (Int)} (h : f_X0_goalInFraction a0_size a0_caret a0_marksF x1 = some r) : q_M D cs yX0_goalInFraction cX0_goalInFraction 8 (some .int) 3 68 [.ref a0, .int (iI x1)] [(a0, .inr (0, [.ref a0_marks, .int (iI a0_size), .int (iI a0_caret), .int (iI a0_from)])), (a0_marks, .inl (cs.1, 180, .inl (aI a0_marksF)))] (some (.int (iI r))) [(a0, .inr (0, [.ref a0_marks, .int (iI a0_size), .int (iI a0_caret), .int (iI a0_from)])), (a0_marks, .inl (cs.1, 180, .inl (aI a0_marksF)))] := by
  refine q_start_i [(0, .ref a0), (1, .int (iI x1))] RX0 rfl (by decide +kernel) rfl (Nat.le_of_ble_eq_true rfl) rfl (fun κ ok fin => ?_)
  unfold f_X0_goalInFraction at h
  refine j_aload_n (pc := 0) 0 ok dX0_goalInFraction_0 rfl rfl ?_
  refine gf_X0_19_0 (pc := 1) 0 ok rfl dX0_goalInFraction_1 ?_
  refine j_istore_n (pc := 4) (lv' := [(2, .int (iI a0_caret)), (0, .ref a0), (1, .int (iI x1))]) ok dX0_goalInFraction_4 rfl (by decide) rfl ?_
  refine j_iconst (pc := 5) ok dX0_goalInFraction_5 ?_
  refine j_istore_n (pc := 6) (lv' := [(3, .int (iI 0)), (2, .int (iI a0_caret)), (0, .ref a0), (1, .int (iI x1))]) ok dX0_goalInFraction_6 rfl (by decide) rfl ?_
  refine j_lv [2, 3, 1, 0] rfl ?_
  refine l_X0_goalInFraction_7 ok fin (fun z14 h => ?_) fuel _ _ h
  · refine j_bipush (pc := 113) ok dX0_goalInFraction_113 (by decide) ?_
    obtain rfl := Option.some.inj h
    exact fin _ 115 dX0_goalInFraction_115
def f_X3_kindAround (a0_marksN : Nat) (a0_size : Int) (a0_marksF : (Nat → Int)) (x1 : Int) : Option (Int) := jn (fun (z4 : Int) => some z4) (fun k1 => cLt 0 x1 (bd (f_X3_holder a0_marksN a0_size a0_marksF x1) (fun r2 => bd (f_X3_mark a0_marksN a0_size a0_marksF r2) (fun r3 => k1 r3))) (k1 0))
set_option maxRecDepth 100000 in
set_option maxHeartbeats 4000000 in
theorem k_X3_kindAround {D : va_G} {cs : q_CS} {a0 a0_marks : Nat} {a0_marksN : Nat} {a0_ci : Nat} {a0_fx : List Value} {a0_size : Int} {a0_marksF : (Nat → Int)} {x1 : Int} {r : (Int)} (ha0 : q_mk a0_ci a0_fx) (h : f_X3_kindAround a0_marksN a0_size a0_marksF x1 = some r) : q_M D cs yX3_kindAround cX3_kindAround 2 (some .int) 3 66 [.ref a0, .int (iI x1)] [(a0, .inr (a0_ci, .ref a0_marks :: .int (iI a0_size) :: a0_fx)), (a0_marks, .inl (cs.1, a0_marksN, .inl (aI a0_marksF)))] (some (.int (iI r))) [(a0, .inr (a0_ci, .ref a0_marks :: .int (iI a0_size) :: a0_fx)), (a0_marks, .inl (cs.1, a0_marksN, .inl (aI a0_marksF)))] := by
  refine q_start_i [(0, .ref a0), (1, .int (iI x1))] RX3 rfl (by decide +kernel) rfl (Nat.le_of_ble_eq_true rfl) rfl (fun κ ok fin => ?_)
  unfold f_X3_kindAround at h
  refine j_iload_n (pc := 0) 1 ok dX3_kindAround_0 rfl rfl ?_
  refine jn_use (P := fun z4 => q_J D κ 2 0 0 [(a0, .inr (a0_ci, .ref a0_marks :: .int (iI a0_size) :: a0_fx)), (a0_marks, .inl (cs.1, a0_marksN, .inl (aI a0_marksF)))] [] 17 [.int (iI z4)]) h (fun z4 h => ?_) (fun k1 hk1 h => ?_)
  · obtain rfl := Option.some.inj h
    exact fin _ 17 dX3_kindAround_17
  · refine j_if_le (pc := 1) 16 ok dX3_kindAround_1 (by decide) h (fun h => ?_) (fun h => ?_)
    · refine j_iconst (pc := 16) ok dX3_kindAround_16 ?_
      refine j_lv [] rfl ?_
      exact hk1 0 h
    · refine j_aload_n (pc := 4) 0 ok dX3_kindAround_4 rfl rfl ?_
      refine j_aload_n (pc := 5) 0 ok dX3_kindAround_5 rfl rfl ?_
      refine j_iload_n (pc := 6) 1 ok dX3_kindAround_6 rfl rfl ?_
      obtain ⟨r2, hr2, h⟩ := bd_inv h
      refine j_callM (pc := 7) ok ha0 (k_X3_holder (a0 := a0) (a0_marks := a0_marks) (a0_ci := a0_ci) (a0_fx := a0_fx) (a0_marksN := a0_marksN) (a0_size := a0_size) (a0_marksF := a0_marksF) (x1 := x1) ha0 hr2) gU_X3_57 rfl hd_X3_holder gV_X3_57 ⟨rfl, hd_X3_holder⟩ [0, 1] (by decide) rfl rfl 0 rfl rfl rfl ⟨Nat.zero_le _, Nat.zero_le _⟩ (Nat.le_of_ble_eq_true rfl) dX3_kindAround_7 rfl [(a0, .inr (a0_ci, .ref a0_marks :: .int (iI a0_size) :: a0_fx)), (a0_marks, .inl (cs.1, a0_marksN, .inl (aI a0_marksF)))] rfl ?_
      obtain ⟨r3, hr3, h⟩ := bd_inv h
      refine j_callM (pc := 10) ok ha0 (k_X3_mark (a0 := a0) (a0_marks := a0_marks) (a0_ci := a0_ci) (a0_fx := a0_fx) (a0_marksN := a0_marksN) (a0_size := a0_size) (a0_marksF := a0_marksF) (x1 := r2) ha0 hr3) gU_X3_31 rfl hd_X3_mark gV_X3_31 ⟨rfl, hd_X3_mark⟩ [0, 1] (by decide) rfl rfl 0 rfl rfl rfl ⟨Nat.zero_le _, Nat.zero_le _⟩ (Nat.le_of_ble_eq_true rfl) dX3_kindAround_10 rfl [(a0, .inr (a0_ci, .ref a0_marks :: .int (iI a0_size) :: a0_fx)), (a0_marks, .inl (cs.1, a0_marksN, .inl (aI a0_marksF)))] rfl ?_
      refine j_goto (pc := 13) 17 ok dX3_kindAround_13 (by decide) ?_
      refine j_lv [] rfl ?_
      exact hk1 r3 h
def f_X0_verticalGoal (a0_size : Int) (a0_caret : Int) (a0_marksF : (Nat → Int)) (x1 : Int) : Option (Int) := bd (f_X0_goalInFraction a0_size a0_caret a0_marksF x1) (fun r1 => cEq r1 ((-9)) (jn (fun (z3 : Int) => bd (f_X3_mark 180 a0_size a0_marksF a0_caret) (fun r4 => cEq r4 z3 (some (a0_caret + 1)) (jn (fun (z6 : Int) => bd (f_X3_rowStart 180 a0_size a0_marksF a0_caret) (fun r7 => bd (f_X3_kindAround 180 a0_size a0_marksF r7) (fun r8 => cEq r8 z6 (bd (f_X3_rowEnd 180 a0_size a0_marksF a0_caret) (fun r9 => some (r9 + 1))) (some ((-9)))))) (fun k5 => cEq x1 0 (k5 2) (k5 3))))) (fun k2 => cEq x1 0 (k2 3) (k2 2))) (some r1))
set_option maxRecDepth 100000 in
set_option maxHeartbeats 4000000 in
theorem k_X0_verticalGoal {D : va_G} {cs : q_CS} {a0 a0_marks : Nat} {a0_size a0_caret a0_from : Int} {a0_marksF : (Nat → Int)} {x1 : Int} {r : (Int)} (h : f_X0_verticalGoal a0_size a0_caret a0_marksF x1 = some r) : q_M D cs yX0_verticalGoal cX0_verticalGoal 5 (some .int) 4 95 [.ref a0, .int (iI x1)] [(a0, .inr (0, [.ref a0_marks, .int (iI a0_size), .int (iI a0_caret), .int (iI a0_from)])), (a0_marks, .inl (cs.1, 180, .inl (aI a0_marksF)))] (some (.int (iI r))) [(a0, .inr (0, [.ref a0_marks, .int (iI a0_size), .int (iI a0_caret), .int (iI a0_from)])), (a0_marks, .inl (cs.1, 180, .inl (aI a0_marksF)))] := by
  refine q_start_i [(0, .ref a0), (1, .int (iI x1))] RX0 rfl (by decide +kernel) rfl (Nat.le_of_ble_eq_true rfl) rfl (fun κ ok fin => ?_)
  unfold f_X0_verticalGoal at h
  refine j_aload_n (pc := 0) 0 ok dX0_verticalGoal_0 rfl rfl ?_
  refine j_iload_n (pc := 1) 1 ok dX0_verticalGoal_1 rfl rfl ?_
  obtain ⟨r1, hr1, h⟩ := bd_inv h
  refine j_callV (pc := 2) ok (k_X0_goalInFraction (a0 := a0) (a0_marks := a0_marks) (a0_size := a0_size) (a0_caret := a0_caret) (a0_from := a0_from) (a0_marksF := a0_marksF) (x1 := x1) hr1) gV_X0_80 ⟨rfl, hd_X0_goalInFraction⟩ [0, 1] (by decide) rfl rfl 0 rfl rfl rfl rfl ⟨Nat.zero_le _, Nat.zero_le _⟩ (Nat.le_of_ble_eq_true rfl) dX0_verticalGoal_2 rfl [(a0, .inr (0, [.ref a0_marks, .int (iI a0_size), .int (iI a0_caret), .int (iI a0_from)])), (a0_marks, .inl (cs.1, 180, .inl (aI a0_marksF)))] rfl ?_
  refine j_istore_n (pc := 5) (lv' := [(2, .int (iI r1)), (0, .ref a0), (1, .int (iI x1))]) ok dX0_verticalGoal_5 rfl (by decide) rfl ?_
  refine j_iload_n (pc := 6) 0 ok dX0_verticalGoal_6 rfl rfl ?_
  refine j_bipush (pc := 7) ok dX0_verticalGoal_7 (by decide) ?_
  refine j_icmp_eq (pc := 9) 14 ok dX0_verticalGoal_9 (by decide) h (fun h => ?_) (fun h => ?_)
  · refine j_iload_n (pc := 14) 2 ok dX0_verticalGoal_14 rfl rfl ?_
    refine jn_use (P := fun z3 => q_J D κ 5 0 0 [(a0, .inr (0, [.ref a0_marks, .int (iI a0_size), .int (iI a0_caret), .int (iI a0_from)])), (a0_marks, .inl (cs.1, 180, .inl (aI a0_marksF)))] [(0, .ref a0), (1, .int (iI x1))] 23 [.int (iI z3)]) h (fun z3 h => ?_) (fun k2 hk2 h => ?_)
    · refine j_istore_n (pc := 23) (lv' := [(3, .int (iI z3)), (0, .ref a0), (1, .int (iI x1))]) ok dX0_verticalGoal_23 rfl (by decide) rfl ?_
      refine j_aload_n (pc := 24) 1 ok dX0_verticalGoal_24 rfl rfl ?_
      refine j_aload_n (pc := 25) 1 ok dX0_verticalGoal_25 rfl rfl ?_
      refine gf_X0_19_0 (pc := 26) 0 ok rfl dX0_verticalGoal_26 ?_
      obtain ⟨r4, hr4, h⟩ := bd_inv h
      refine j_callU (pc := 29) ok (k_X3_mark (a0 := a0) (a0_marks := a0_marks) (a0_ci := 0) (a0_fx := [.int (iI a0_caret), .int (iI a0_from)]) (a0_marksN := 180) (a0_size := a0_size) (a0_marksF := a0_marksF) (x1 := a0_caret) (q_mk0 _ _) hr4) gU_X0_51 rfl hd_X3_mark [0, 1] (by decide) rfl rfl 0 rfl rfl rfl rfl ⟨Nat.zero_le _, Nat.zero_le _⟩ (Nat.le_of_ble_eq_true rfl) dX0_verticalGoal_29 rfl [(a0, .inr (0, [.ref a0_marks, .int (iI a0_size), .int (iI a0_caret), .int (iI a0_from)])), (a0_marks, .inl (cs.1, 180, .inl (aI a0_marksF)))] rfl ?_
      refine j_iload_n (pc := 32) 0 ok dX0_verticalGoal_32 rfl rfl ?_
      refine j_icmp_ne (pc := 33) 43 ok dX0_verticalGoal_33 (by decide) h (fun h => ?_) (fun h => ?_)
      · refine j_iload_n (pc := 43) 2 ok dX0_verticalGoal_43 rfl rfl ?_
        refine jn_use (P := fun z6 => q_J D κ 5 0 0 [(a0, .inr (0, [.ref a0_marks, .int (iI a0_size), .int (iI a0_caret), .int (iI a0_from)])), (a0_marks, .inl (cs.1, 180, .inl (aI a0_marksF)))] [(0, .ref a0)] 52 [.int (iI z6)]) h (fun z6 h => ?_) (fun k5 hk5 h => ?_)
        · refine j_istore (pc := 52) (lv' := [(4, .int (iI z6)), (0, .ref a0)]) ok dX0_verticalGoal_52 (by decide) rfl ?_
          refine j_aload_n (pc := 54) 1 ok dX0_verticalGoal_54 rfl rfl ?_
          refine j_aload_n (pc := 55) 1 ok dX0_verticalGoal_55 rfl rfl ?_
          refine j_aload_n (pc := 56) 1 ok dX0_verticalGoal_56 rfl rfl ?_
          refine gf_X0_19_0 (pc := 57) 0 ok rfl dX0_verticalGoal_57 ?_
          obtain ⟨r7, hr7, h⟩ := bd_inv h
          refine j_callU (pc := 60) ok (k_X3_rowStart (a0 := a0) (a0_marks := a0_marks) (a0_ci := 0) (a0_fx := [.int (iI a0_caret), .int (iI a0_from)]) (a0_marksN := 180) (a0_size := a0_size) (a0_marksF := a0_marksF) (x1 := a0_caret) (q_mk0 _ _) hr7) gU_X0_60 rfl hd_X3_rowStart [0, 1] (by decide) rfl rfl 0 rfl rfl rfl rfl ⟨Nat.zero_le _, Nat.zero_le _⟩ (Nat.le_of_ble_eq_true rfl) dX0_verticalGoal_60 rfl [(a0, .inr (0, [.ref a0_marks, .int (iI a0_size), .int (iI a0_caret), .int (iI a0_from)])), (a0_marks, .inl (cs.1, 180, .inl (aI a0_marksF)))] rfl ?_
          obtain ⟨r8, hr8, h⟩ := bd_inv h
          refine j_callU (pc := 63) ok (k_X3_kindAround (a0 := a0) (a0_marks := a0_marks) (a0_ci := 0) (a0_fx := [.int (iI a0_caret), .int (iI a0_from)]) (a0_marksN := 180) (a0_size := a0_size) (a0_marksF := a0_marksF) (x1 := r7) (q_mk0 _ _) hr8) gU_X0_84 rfl hd_X3_kindAround [0, 1] (by decide) rfl rfl 0 rfl rfl rfl rfl ⟨Nat.zero_le _, Nat.zero_le _⟩ (Nat.le_of_ble_eq_true rfl) dX0_verticalGoal_63 rfl [(a0, .inr (0, [.ref a0_marks, .int (iI a0_size), .int (iI a0_caret), .int (iI a0_from)])), (a0_marks, .inl (cs.1, 180, .inl (aI a0_marksF)))] rfl ?_
          refine j_iload (pc := 66) 0 ok dX0_verticalGoal_66 rfl ?_
          refine j_icmp_ne (pc := 68) 82 ok dX0_verticalGoal_68 (by decide) h (fun h => ?_) (fun h => ?_)
          · refine j_bipush (pc := 82) ok dX0_verticalGoal_82 (by decide) ?_
            obtain rfl := Option.some.inj h
            exact fin _ 84 dX0_verticalGoal_84
          · refine j_aload_n (pc := 71) 1 ok dX0_verticalGoal_71 rfl rfl ?_
            refine j_aload_n (pc := 72) 1 ok dX0_verticalGoal_72 rfl rfl ?_
            refine gf_X0_19_0 (pc := 73) 0 ok rfl dX0_verticalGoal_73 ?_
            obtain ⟨r9, hr9, h⟩ := bd_inv h
            refine j_callU (pc := 76) ok (k_X3_rowEnd (a0 := a0) (a0_marks := a0_marks) (a0_ci := 0) (a0_fx := [.int (iI a0_caret), .int (iI a0_from)]) (a0_marksN := 180) (a0_size := a0_size) (a0_marksF := a0_marksF) (x1 := a0_caret) (q_mk0 _ _) hr9) gU_X0_63 rfl hd_X3_rowEnd [0, 1] (by decide) rfl rfl 0 rfl rfl rfl rfl ⟨Nat.zero_le _, Nat.zero_le _⟩ (Nat.le_of_ble_eq_true rfl) dX0_verticalGoal_76 rfl [(a0, .inr (0, [.ref a0_marks, .int (iI a0_size), .int (iI a0_caret), .int (iI a0_from)])), (a0_marks, .inl (cs.1, 180, .inl (aI a0_marksF)))] rfl ?_
            refine j_iconst (pc := 79) ok dX0_verticalGoal_79 ?_
            refine j_iadd (pc := 80) ok dX0_verticalGoal_80 ?_
            obtain rfl := Option.some.inj h
            exact fin _ 81 dX0_verticalGoal_81
        · refine j_if_eq (pc := 44) 51 ok dX0_verticalGoal_44 (by decide) h (fun h => ?_) (fun h => ?_)
          · refine j_iconst (pc := 51) ok dX0_verticalGoal_51 ?_
            refine j_lv [1] rfl ?_
            exact hk5 2 h
          · refine j_iconst (pc := 47) ok dX0_verticalGoal_47 ?_
            refine j_goto (pc := 48) 52 ok dX0_verticalGoal_48 (by decide) ?_
            refine j_lv [1] rfl ?_
            exact hk5 3 h
      · refine j_aload_n (pc := 36) 1 ok dX0_verticalGoal_36 rfl rfl ?_
        refine gf_X0_19_0 (pc := 37) 0 ok rfl dX0_verticalGoal_37 ?_
        refine j_iconst (pc := 40) ok dX0_verticalGoal_40 ?_
        refine j_iadd (pc := 41) ok dX0_verticalGoal_41 ?_
        obtain rfl := Option.some.inj h
        exact fin _ 42 dX0_verticalGoal_42
    · refine j_if_eq (pc := 15) 22 ok dX0_verticalGoal_15 (by decide) h (fun h => ?_) (fun h => ?_)
      · refine j_iconst (pc := 22) ok dX0_verticalGoal_22 ?_
        refine j_lv [1, 2] rfl ?_
        exact hk2 3 h
      · refine j_iconst (pc := 18) ok dX0_verticalGoal_18 ?_
        refine j_goto (pc := 19) 23 ok dX0_verticalGoal_19 (by decide) ?_
        refine j_lv [1, 2] rfl ?_
        exact hk2 2 h
  · refine j_iload_n (pc := 12) 0 ok dX0_verticalGoal_12 rfl rfl ?_
    obtain rfl := Option.some.inj h
    exact fin _ 13 dX0_verticalGoal_13
