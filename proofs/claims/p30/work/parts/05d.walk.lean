def f_X4_enterSlot (a0_row : Int) (a0_column : Int) (a0_height : Int) (a0_abovesF : (Nat → Int)) (a0_belowsF : (Nat → Int)) (a0_widthsF : (Nat → Int)) (x1 : Int) (x2 : Int) (x3 : Int) : Option (Int × Int × Int × Int) := jn (fun (z4 : Unit) => some (32, a0_row, a0_column - x2, a0_height - x3)) (fun k1 => cLt (a0_column - x2) 0 (k1 ()) (bd (f_X4_width a0_widthsF x1) (fun r2 => cLt (a0_column - x2) r2 (bd (f_X4_isBeside (a0_height - x3) a0_abovesF a0_belowsF x1) (fun r3 => cEq r3 0 (k1 ()) (some ((-9), x1, a0_column - x2, a0_height - x3)))) (k1 ()))))
set_option maxRecDepth 100000 in
set_option maxHeartbeats 4000000 in
theorem k_X4_enterSlot {D : va_G} {cs : q_CS} {a0 a0_widths a0_aboves a0_belows : Nat} {a0_row a0_column a0_height : Int} {a0_abovesF a0_belowsF a0_widthsF : (Nat → Int)} {x1 x2 x3 : Int} {r : (Int × Int × Int × Int)} (h : f_X4_enterSlot a0_row a0_column a0_height a0_abovesF a0_belowsF a0_widthsF x1 x2 x3 = some r) : q_M D cs yX4_enterSlot cX4_enterSlot 4 (some .int) 2 42 [.ref a0, .int (iI x1), .int (iI x2), .int (iI x3)] [(a0, .inr (4, [.ref a0_widths, .ref a0_aboves, .ref a0_belows, .int (iI a0_row), .int (iI a0_column), .int (iI a0_height)])), (a0_aboves, .inl (cs.1, 181, .inl (aI a0_abovesF))), (a0_belows, .inl (cs.1, 181, .inl (aI a0_belowsF))), (a0_widths, .inl (cs.1, 181, .inl (aI a0_widthsF)))] (some (.int (iI r.1))) [(a0, .inr (4, [.ref a0_widths, .ref a0_aboves, .ref a0_belows, .int (iI r.2.1), .int (iI r.2.2.1), .int (iI r.2.2.2)])), (a0_aboves, .inl (cs.1, 181, .inl (aI a0_abovesF))), (a0_belows, .inl (cs.1, 181, .inl (aI a0_belowsF))), (a0_widths, .inl (cs.1, 181, .inl (aI a0_widthsF)))] := by
  refine q_start_i [(0, .ref a0), (1, .int (iI x1)), (2, .int (iI x2)), (3, .int (iI x3))] RX4 rfl (by decide +kernel) rfl (Nat.le_of_ble_eq_true rfl) rfl (fun κ ok fin => ?_)
  unfold f_X4_enterSlot at h
  refine j_aload_n (pc := 0) 0 ok dX4_enterSlot_0 rfl rfl ?_
  refine j_dup (pc := 1) ok dX4_enterSlot_1 rfl ?_
  refine gf_X4_79_4 (pc := 2) 0 ok rfl dX4_enterSlot_2 ?_
  refine j_iload_n (pc := 5) 2 ok dX4_enterSlot_5 rfl rfl ?_
  refine j_isub (pc := 6) ok dX4_enterSlot_6 ?_
  refine pf_X4_79_4 (pc := 7) 0 ok rfl dX4_enterSlot_7 [(a0, .inr (4, [.ref a0_widths, .ref a0_aboves, .ref a0_belows, .int (iI a0_row), .int (iI (a0_column - x2)), .int (iI a0_height)])), (a0_aboves, .inl (cs.1, 181, .inl (aI a0_abovesF))), (a0_belows, .inl (cs.1, 181, .inl (aI a0_belowsF))), (a0_widths, .inl (cs.1, 181, .inl (aI a0_widthsF)))] rfl ?_
  refine j_aload_n (pc := 10) 0 ok dX4_enterSlot_10 rfl rfl ?_
  refine j_dup (pc := 11) ok dX4_enterSlot_11 rfl ?_
  refine gf_X4_82_4 (pc := 12) 0 ok rfl dX4_enterSlot_12 ?_
  refine j_iload_n (pc := 15) 3 ok dX4_enterSlot_15 rfl rfl ?_
  refine j_isub (pc := 16) ok dX4_enterSlot_16 ?_
  refine pf_X4_82_4 (pc := 17) 0 ok rfl dX4_enterSlot_17 [(a0, .inr (4, [.ref a0_widths, .ref a0_aboves, .ref a0_belows, .int (iI a0_row), .int (iI (a0_column - x2)), .int (iI (a0_height - x3))])), (a0_aboves, .inl (cs.1, 181, .inl (aI a0_abovesF))), (a0_belows, .inl (cs.1, 181, .inl (aI a0_belowsF))), (a0_widths, .inl (cs.1, 181, .inl (aI a0_widthsF)))] rfl ?_
  refine j_aload_n (pc := 20) 0 ok dX4_enterSlot_20 rfl rfl ?_
  refine gf_X4_79_4 (pc := 21) 0 ok rfl dX4_enterSlot_21 ?_
  refine jn_use (P := fun z4 => q_J D κ 4 0 0 [(a0, .inr (4, [.ref a0_widths, .ref a0_aboves, .ref a0_belows, .int (iI a0_row), .int (iI (a0_column - x2)), .int (iI (a0_height - x3))])), (a0_aboves, .inl (cs.1, 181, .inl (aI a0_abovesF))), (a0_belows, .inl (cs.1, 181, .inl (aI a0_belowsF))), (a0_widths, .inl (cs.1, 181, .inl (aI a0_widthsF)))] [] 47 []) h (fun z4 h => ?_) (fun k1 hk1 h => ?_)
  · refine j_bipush (pc := 47) ok dX4_enterSlot_47 (by decide) ?_
    obtain rfl := Option.some.inj h
    exact fin _ 49 dX4_enterSlot_49
  · refine j_if_lt (pc := 24) 47 ok dX4_enterSlot_24 (by decide) h (fun h => ?_) (fun h => ?_)
    · refine j_lv [] rfl ?_
      exact hk1 () h
    · refine j_aload_n (pc := 27) 0 ok dX4_enterSlot_27 rfl rfl ?_
      refine gf_X4_79_4 (pc := 28) 0 ok rfl dX4_enterSlot_28 ?_
      refine j_aload_n (pc := 31) 0 ok dX4_enterSlot_31 rfl rfl ?_
      refine j_iload_n (pc := 32) 1 ok dX4_enterSlot_32 rfl rfl ?_
      obtain ⟨r2, hr2, h⟩ := bd_inv h
      refine j_callV (pc := 33) ok (k_X4_width (a0 := a0) (a0_widths := a0_widths) (a0_aboves := a0_aboves) (a0_belows := a0_belows) (a0_row := a0_row) (a0_column := a0_column - x2) (a0_height := a0_height - x3) (a0_widthsF := a0_widthsF) (x1 := x1) hr2) gV_X4_67 ⟨rfl, hd_X4_width⟩ [0, 3] (by decide) rfl rfl 0 rfl rfl rfl rfl ⟨Nat.zero_le _, Nat.zero_le _⟩ (Nat.le_of_ble_eq_true rfl) dX4_enterSlot_33 rfl [(a0, .inr (4, [.ref a0_widths, .ref a0_aboves, .ref a0_belows, .int (iI a0_row), .int (iI (a0_column - x2)), .int (iI (a0_height - x3))])), (a0_aboves, .inl (cs.1, 181, .inl (aI a0_abovesF))), (a0_belows, .inl (cs.1, 181, .inl (aI a0_belowsF))), (a0_widths, .inl (cs.1, 181, .inl (aI a0_widthsF)))] rfl ?_
      refine j_icmp_ge (pc := 36) 47 ok dX4_enterSlot_36 (by decide) h (fun h => ?_) (fun h => ?_)
      · refine j_lv [] rfl ?_
        exact hk1 () h
      · refine j_aload_n (pc := 39) 0 ok dX4_enterSlot_39 rfl rfl ?_
        refine j_iload_n (pc := 40) 1 ok dX4_enterSlot_40 rfl rfl ?_
        obtain ⟨r3, hr3, h⟩ := bd_inv h
        refine j_callV (pc := 41) ok (k_X4_isBeside (a0 := a0) (a0_widths := a0_widths) (a0_aboves := a0_aboves) (a0_belows := a0_belows) (a0_row := a0_row) (a0_column := a0_column - x2) (a0_height := a0_height - x3) (a0_abovesF := a0_abovesF) (a0_belowsF := a0_belowsF) (x1 := x1) hr3) gV_X4_111 ⟨rfl, hd_X4_isBeside⟩ [0, 1, 2] (by decide) rfl rfl 0 rfl rfl rfl rfl ⟨Nat.zero_le _, Nat.zero_le _⟩ (Nat.le_of_ble_eq_true rfl) dX4_enterSlot_41 rfl [(a0, .inr (4, [.ref a0_widths, .ref a0_aboves, .ref a0_belows, .int (iI a0_row), .int (iI (a0_column - x2)), .int (iI (a0_height - x3))])), (a0_aboves, .inl (cs.1, 181, .inl (aI a0_abovesF))), (a0_belows, .inl (cs.1, 181, .inl (aI a0_belowsF))), (a0_widths, .inl (cs.1, 181, .inl (aI a0_widthsF)))] rfl ?_
        refine j_if_ne (pc := 44) 50 ok dX4_enterSlot_44 (by decide) h (fun h => ?_) (fun h => ?_)
        · refine j_aload_n (pc := 50) 0 ok dX4_enterSlot_50 rfl rfl ?_
          refine j_iload_n (pc := 51) 1 ok dX4_enterSlot_51 rfl rfl ?_
          refine pf_X4_76_4 (pc := 52) 0 ok rfl dX4_enterSlot_52 [(a0, .inr (4, [.ref a0_widths, .ref a0_aboves, .ref a0_belows, .int (iI x1), .int (iI (a0_column - x2)), .int (iI (a0_height - x3))])), (a0_aboves, .inl (cs.1, 181, .inl (aI a0_abovesF))), (a0_belows, .inl (cs.1, 181, .inl (aI a0_belowsF))), (a0_widths, .inl (cs.1, 181, .inl (aI a0_widthsF)))] rfl ?_
          refine j_bipush (pc := 55) ok dX4_enterSlot_55 (by decide) ?_
          obtain rfl := Option.some.inj h
          exact fin _ 57 dX4_enterSlot_57
        · refine j_lv [] rfl ?_
          exact hk1 () h
def f_X4_signInFraction (a1_marksN : Nat) (a0_row : Int) (a0_column : Int) (a0_height : Int) (a0_abovesF : (Nat → Int)) (a0_belowsF : (Nat → Int)) (a0_widthsF : (Nat → Int)) (a1_size : Int) (a1_marksF : (Nat → Int)) (x2 : Int) : Option (Int × Int × Int × Int) := cEq a0_height 0 (some (45, a0_row, a0_column, a0_height)) (jn (fun (z3 : Int) => bd (f_X4_itemWidth a1_marksN a0_widthsF a1_size a1_marksF x2) (fun r4 => bd (f_X4_width a0_widthsF z3) (fun r5 => gR (r4 - r5) (jn (fun (z9 : Int) => bd (f_X4_enterSlot a0_row a0_column a0_height a0_abovesF a0_belowsF a0_widthsF z3 ((r4 - r5).tdiv 2) z9) (fun r10 => some (r10.1, r10.2.1, r10.2.2.1, r10.2.2.2))) (fun k6 => cLt a0_height 0 (bd (f_X4_upwards a0_belowsF z3) (fun r8 => k6 r8)) (bd (f_X4_downwards a0_abovesF z3) (fun r7 => k6 r7))))))) (fun k1 => cLt a0_height 0 (k1 (x2 + 1)) (bd (f_X3_secondSlot a1_marksN a1_size a1_marksF x2) (fun r2 => k1 r2))))
set_option maxRecDepth 100000 in
set_option maxHeartbeats 4000000 in
theorem k_X4_signInFraction {D : va_G} {cs : q_CS} {a0 a0_widths a0_aboves a0_belows a1 a1_marks : Nat} {a1_marksN : Nat} {a1_ci : Nat} {a1_fx : List Value} {a0_row a0_column a0_height a1_size : Int} {a0_abovesF a0_belowsF a0_widthsF a1_marksF : (Nat → Int)} {x2 : Int} {r : (Int × Int × Int × Int)} (ha1 : q_mk a1_ci a1_fx) (h : f_X4_signInFraction a1_marksN a0_row a0_column a0_height a0_abovesF a0_belowsF a0_widthsF a1_size a1_marksF x2 = some r) : q_M D cs yX4_signInFraction cX4_signInFraction 5 (some .int) 3 68 [.ref a0, .ref a1, .int (iI x2)] [(a0, .inr (4, [.ref a0_widths, .ref a0_aboves, .ref a0_belows, .int (iI a0_row), .int (iI a0_column), .int (iI a0_height)])), (a0_aboves, .inl (cs.1, 181, .inl (aI a0_abovesF))), (a0_belows, .inl (cs.1, 181, .inl (aI a0_belowsF))), (a0_widths, .inl (cs.1, 181, .inl (aI a0_widthsF))), (a1, .inr (a1_ci, .ref a1_marks :: .int (iI a1_size) :: a1_fx)), (a1_marks, .inl (cs.1, a1_marksN, .inl (aI a1_marksF)))] (some (.int (iI r.1))) [(a0, .inr (4, [.ref a0_widths, .ref a0_aboves, .ref a0_belows, .int (iI r.2.1), .int (iI r.2.2.1), .int (iI r.2.2.2)])), (a0_aboves, .inl (cs.1, 181, .inl (aI a0_abovesF))), (a0_belows, .inl (cs.1, 181, .inl (aI a0_belowsF))), (a0_widths, .inl (cs.1, 181, .inl (aI a0_widthsF))), (a1, .inr (a1_ci, .ref a1_marks :: .int (iI a1_size) :: a1_fx)), (a1_marks, .inl (cs.1, a1_marksN, .inl (aI a1_marksF)))] := by
  refine q_start_i [(0, .ref a0), (1, .ref a1), (2, .int (iI x2))] RX4 rfl (by decide +kernel) rfl (Nat.le_of_ble_eq_true rfl) rfl (fun κ ok fin => ?_)
  unfold f_X4_signInFraction at h
  refine j_aload_n (pc := 0) 0 ok dX4_signInFraction_0 rfl rfl ?_
  refine gf_X4_82_4 (pc := 1) 0 ok rfl dX4_signInFraction_1 ?_
  refine j_if_ne (pc := 4) 10 ok dX4_signInFraction_4 (by decide) h (fun h => ?_) (fun h => ?_)
  · refine j_aload_n (pc := 10) 0 ok dX4_signInFraction_10 rfl rfl ?_
    refine gf_X4_82_4 (pc := 11) 0 ok rfl dX4_signInFraction_11 ?_
    refine jn_use (P := fun z3 => q_J D κ 5 0 0 [(a0, .inr (4, [.ref a0_widths, .ref a0_aboves, .ref a0_belows, .int (iI a0_row), .int (iI a0_column), .int (iI a0_height)])), (a0_aboves, .inl (cs.1, 181, .inl (aI a0_abovesF))), (a0_belows, .inl (cs.1, 181, .inl (aI a0_belowsF))), (a0_widths, .inl (cs.1, 181, .inl (aI a0_widthsF))), (a1, .inr (a1_ci, .ref a1_marks :: .int (iI a1_size) :: a1_fx)), (a1_marks, .inl (cs.1, a1_marksN, .inl (aI a1_marksF)))] [(0, .ref a0), (1, .ref a1), (2, .int (iI x2))] 28 [.int (iI z3)]) h (fun z3 h => ?_) (fun k1 hk1 h => ?_)
    · refine j_istore_n (pc := 28) (lv' := [(3, .int (iI z3)), (0, .ref a0), (1, .ref a1), (2, .int (iI x2))]) ok dX4_signInFraction_28 rfl (by decide) rfl ?_
      refine j_aload_n (pc := 29) 1 ok dX4_signInFraction_29 rfl rfl ?_
      refine j_aload_n (pc := 30) 2 ok dX4_signInFraction_30 rfl rfl ?_
      refine j_iload_n (pc := 31) 3 ok dX4_signInFraction_31 rfl rfl ?_
      obtain ⟨r4, hr4, h⟩ := bd_inv h
      refine j_callV (pc := 32) ok (k_X4_itemWidth (a0 := a0) (a0_widths := a0_widths) (a0_aboves := a0_aboves) (a0_belows := a0_belows) (a1 := a1) (a1_marks := a1_marks) (a1_ci := a1_ci) (a1_fx := a1_fx) (a1_marksN := a1_marksN) (a0_row := a0_row) (a0_column := a0_column) (a0_height := a0_height) (a0_widthsF := a0_widthsF) (a1_size := a1_size) (a1_marksF := a1_marksF) (x2 := x2) ha1 hr4) gV_X4_48 ⟨rfl, hd_X4_itemWidth⟩ [0, 3, 4, 5] (by decide) rfl rfl 0 rfl rfl rfl rfl ⟨Nat.zero_le _, Nat.zero_le _⟩ (Nat.le_of_ble_eq_true rfl) dX4_signInFraction_32 rfl [(a0, .inr (4, [.ref a0_widths, .ref a0_aboves, .ref a0_belows, .int (iI a0_row), .int (iI a0_column), .int (iI a0_height)])), (a0_aboves, .inl (cs.1, 181, .inl (aI a0_abovesF))), (a0_belows, .inl (cs.1, 181, .inl (aI a0_belowsF))), (a0_widths, .inl (cs.1, 181, .inl (aI a0_widthsF))), (a1, .inr (a1_ci, .ref a1_marks :: .int (iI a1_size) :: a1_fx)), (a1_marks, .inl (cs.1, a1_marksN, .inl (aI a1_marksF)))] rfl ?_
      refine j_aload_n (pc := 35) 1 ok dX4_signInFraction_35 rfl rfl ?_
      refine j_iload_n (pc := 36) 0 ok dX4_signInFraction_36 rfl rfl ?_
      obtain ⟨r5, hr5, h⟩ := bd_inv h
      refine j_callV (pc := 37) ok (k_X4_width (a0 := a0) (a0_widths := a0_widths) (a0_aboves := a0_aboves) (a0_belows := a0_belows) (a0_row := a0_row) (a0_column := a0_column) (a0_height := a0_height) (a0_widthsF := a0_widthsF) (x1 := z3) hr5) gV_X4_67 ⟨rfl, hd_X4_width⟩ [0, 3] (by decide) rfl rfl 0 rfl rfl rfl rfl ⟨Nat.zero_le _, Nat.zero_le _⟩ (Nat.le_of_ble_eq_true rfl) dX4_signInFraction_37 rfl [(a0, .inr (4, [.ref a0_widths, .ref a0_aboves, .ref a0_belows, .int (iI a0_row), .int (iI a0_column), .int (iI a0_height)])), (a0_aboves, .inl (cs.1, 181, .inl (aI a0_abovesF))), (a0_belows, .inl (cs.1, 181, .inl (aI a0_belowsF))), (a0_widths, .inl (cs.1, 181, .inl (aI a0_widthsF))), (a1, .inr (a1_ci, .ref a1_marks :: .int (iI a1_size) :: a1_fx)), (a1_marks, .inl (cs.1, a1_marksN, .inl (aI a1_marksF)))] rfl ?_
      refine j_isub (pc := 40) ok dX4_signInFraction_40 ?_
      refine j_iconst (pc := 41) ok dX4_signInFraction_41 ?_
      refine j_idiv (pc := 42) ok dX4_signInFraction_42 (by decide) (by decide) h (fun h => ?_)
      refine j_istore (pc := 43) (lv' := [(4, .int (iI ((r4 - r5).tdiv 2))), (3, .int (iI z3)), (0, .ref a0), (1, .ref a1), (2, .int (iI x2))]) ok dX4_signInFraction_43 (by decide) rfl ?_
      refine j_aload_n (pc := 45) 2 ok dX4_signInFraction_45 rfl rfl ?_
      refine j_iload_n (pc := 46) 1 ok dX4_signInFraction_46 rfl rfl ?_
      refine j_iload (pc := 47) 0 ok dX4_signInFraction_47 rfl ?_
      refine j_aload_n (pc := 49) 2 ok dX4_signInFraction_49 rfl rfl ?_
      refine gf_X4_82_4 (pc := 50) 0 ok rfl dX4_signInFraction_50 ?_
      refine jn_use (P := fun z9 => q_J D κ 5 0 0 [(a0, .inr (4, [.ref a0_widths, .ref a0_aboves, .ref a0_belows, .int (iI a0_row), .int (iI a0_column), .int (iI a0_height)])), (a0_aboves, .inl (cs.1, 181, .inl (aI a0_abovesF))), (a0_belows, .inl (cs.1, 181, .inl (aI a0_belowsF))), (a0_widths, .inl (cs.1, 181, .inl (aI a0_widthsF))), (a1, .inr (a1_ci, .ref a1_marks :: .int (iI a1_size) :: a1_fx)), (a1_marks, .inl (cs.1, a1_marksN, .inl (aI a1_marksF)))] [] 69 [.int (iI z9), .int (iI ((r4 - r5).tdiv 2)), .int (iI z3), .ref a0]) h (fun z9 h => ?_) (fun k6 hk6 h => ?_)
      · obtain ⟨r10, hr10, h⟩ := bd_inv h
        refine j_callV (pc := 69) ok (k_X4_enterSlot (a0 := a0) (a0_widths := a0_widths) (a0_aboves := a0_aboves) (a0_belows := a0_belows) (a0_row := a0_row) (a0_column := a0_column) (a0_height := a0_height) (a0_abovesF := a0_abovesF) (a0_belowsF := a0_belowsF) (a0_widthsF := a0_widthsF) (x1 := z3) (x2 := (r4 - r5).tdiv 2) (x3 := z9) hr10) gV_X4_98 ⟨rfl, hd_X4_enterSlot⟩ [0, 1, 2, 3] (by decide) rfl rfl 0 rfl rfl rfl rfl ⟨Nat.zero_le _, Nat.zero_le _⟩ (Nat.le_of_ble_eq_true rfl) dX4_signInFraction_69 rfl [(a0, .inr (4, [.ref a0_widths, .ref a0_aboves, .ref a0_belows, .int (iI r10.2.1), .int (iI r10.2.2.1), .int (iI r10.2.2.2)])), (a0_aboves, .inl (cs.1, 181, .inl (aI a0_abovesF))), (a0_belows, .inl (cs.1, 181, .inl (aI a0_belowsF))), (a0_widths, .inl (cs.1, 181, .inl (aI a0_widthsF))), (a1, .inr (a1_ci, .ref a1_marks :: .int (iI a1_size) :: a1_fx)), (a1_marks, .inl (cs.1, a1_marksN, .inl (aI a1_marksF)))] rfl ?_
        obtain rfl := Option.some.inj h
        exact fin _ 72 dX4_signInFraction_72
      · refine j_if_ge (pc := 53) 64 ok dX4_signInFraction_53 (by decide) h (fun h => ?_) (fun h => ?_)
        · refine j_aload_n (pc := 64) 2 ok dX4_signInFraction_64 rfl rfl ?_
          refine j_iload_n (pc := 65) 1 ok dX4_signInFraction_65 rfl rfl ?_
          obtain ⟨r7, hr7, h⟩ := bd_inv h
          refine j_callV (pc := 66) ok (k_X4_downwards (a0 := a0) (a0_widths := a0_widths) (a0_aboves := a0_aboves) (a0_belows := a0_belows) (a0_row := a0_row) (a0_column := a0_column) (a0_height := a0_height) (a0_abovesF := a0_abovesF) (x1 := z3) hr7) gV_X4_102 ⟨rfl, hd_X4_downwards⟩ [0, 1] (by decide) rfl rfl 0 rfl rfl rfl rfl ⟨Nat.zero_le _, Nat.zero_le _⟩ (Nat.le_of_ble_eq_true rfl) dX4_signInFraction_66 rfl [(a0, .inr (4, [.ref a0_widths, .ref a0_aboves, .ref a0_belows, .int (iI a0_row), .int (iI a0_column), .int (iI a0_height)])), (a0_aboves, .inl (cs.1, 181, .inl (aI a0_abovesF))), (a0_belows, .inl (cs.1, 181, .inl (aI a0_belowsF))), (a0_widths, .inl (cs.1, 181, .inl (aI a0_widthsF))), (a1, .inr (a1_ci, .ref a1_marks :: .int (iI a1_size) :: a1_fx)), (a1_marks, .inl (cs.1, a1_marksN, .inl (aI a1_marksF)))] rfl ?_
          refine j_lv [] rfl ?_
          exact hk6 r7 h
        · refine j_aload_n (pc := 56) 2 ok dX4_signInFraction_56 rfl rfl ?_
          refine j_iload_n (pc := 57) 1 ok dX4_signInFraction_57 rfl rfl ?_
          obtain ⟨r8, hr8, h⟩ := bd_inv h
          refine j_callV (pc := 58) ok (k_X4_upwards (a0 := a0) (a0_widths := a0_widths) (a0_aboves := a0_aboves) (a0_belows := a0_belows) (a0_row := a0_row) (a0_column := a0_column) (a0_height := a0_height) (a0_belowsF := a0_belowsF) (x1 := z3) hr8) gV_X4_95 ⟨rfl, hd_X4_upwards⟩ [0, 2] (by decide) rfl rfl 0 rfl rfl rfl rfl ⟨Nat.zero_le _, Nat.zero_le _⟩ (Nat.le_of_ble_eq_true rfl) dX4_signInFraction_58 rfl [(a0, .inr (4, [.ref a0_widths, .ref a0_aboves, .ref a0_belows, .int (iI a0_row), .int (iI a0_column), .int (iI a0_height)])), (a0_aboves, .inl (cs.1, 181, .inl (aI a0_abovesF))), (a0_belows, .inl (cs.1, 181, .inl (aI a0_belowsF))), (a0_widths, .inl (cs.1, 181, .inl (aI a0_widthsF))), (a1, .inr (a1_ci, .ref a1_marks :: .int (iI a1_size) :: a1_fx)), (a1_marks, .inl (cs.1, a1_marksN, .inl (aI a1_marksF)))] rfl ?_
          refine j_goto (pc := 61) 69 ok dX4_signInFraction_61 (by decide) ?_
          refine j_lv [] rfl ?_
          exact hk6 r8 h
    · refine j_if_ge (pc := 14) 23 ok dX4_signInFraction_14 (by decide) h (fun h => ?_) (fun h => ?_)
      · refine j_aload_n (pc := 23) 1 ok dX4_signInFraction_23 rfl rfl ?_
        refine j_iload_n (pc := 24) 2 ok dX4_signInFraction_24 rfl rfl ?_
        obtain ⟨r2, hr2, h⟩ := bd_inv h
        refine j_callM (pc := 25) ok ha1 (k_X3_secondSlot (a0 := a1) (a0_marks := a1_marks) (a0_ci := a1_ci) (a0_fx := a1_fx) (a0_marksN := a1_marksN) (a0_size := a1_size) (a0_marksF := a1_marksF) (x1 := x2) ha1 hr2) gU_X4_70 rfl hd_X3_secondSlot gV_X4_70 ⟨rfl, hd_X3_secondSlot⟩ [4, 5] (by decide) rfl rfl 4 rfl rfl rfl ⟨Nat.zero_le _, Nat.zero_le _⟩ (Nat.le_of_ble_eq_true rfl) dX4_signInFraction_25 rfl [(a0, .inr (4, [.ref a0_widths, .ref a0_aboves, .ref a0_belows, .int (iI a0_row), .int (iI a0_column), .int (iI a0_height)])), (a0_aboves, .inl (cs.1, 181, .inl (aI a0_abovesF))), (a0_belows, .inl (cs.1, 181, .inl (aI a0_belowsF))), (a0_widths, .inl (cs.1, 181, .inl (aI a0_widthsF))), (a1, .inr (a1_ci, .ref a1_marks :: .int (iI a1_size) :: a1_fx)), (a1_marks, .inl (cs.1, a1_marksN, .inl (aI a1_marksF)))] rfl ?_
        exact hk1 r2 h
      · refine j_iload_n (pc := 17) 2 ok dX4_signInFraction_17 rfl rfl ?_
        refine j_iconst (pc := 18) ok dX4_signInFraction_18 ?_
        refine j_iadd (pc := 19) ok dX4_signInFraction_19 ?_
        refine j_goto (pc := 20) 28 ok dX4_signInFraction_20 (by decide) ?_
        exact hk1 (x2 + 1) h
  · refine j_bipush (pc := 7) ok dX4_signInFraction_7 (by decide) ?_
    obtain rfl := Option.some.inj h
    exact fin _ 9 dX4_signInFraction_9
def f_X4_signInRoot (a0_row : Int) (a0_column : Int) (a0_height : Int) (a0_abovesF : (Nat → Int)) (a0_belowsF : (Nat → Int)) (a0_widthsF : (Nat → Int)) (x1 : Int) : Option (Int × Int × Int × Int) := bd (f_X4_above a0_abovesF x1) (fun r1 => cEq a0_height ((-r1) - 1) (jn (fun (z7 : Int) => some (z7, a0_row, a0_column, a0_height)) (fun k6 => cLt 0 a0_column (k6 95) (k6 32))) (cEq a0_column 0 (bd (f_X4_isBeside a0_height a0_abovesF a0_belowsF x1) (fun r3 => jn (fun (z5 : Int) => some (z5, a0_row, a0_column, a0_height)) (fun k4 => cEq r3 0 (k4 32) (k4 86)))) (bd (f_X4_enterSlot a0_row a0_column a0_height a0_abovesF a0_belowsF a0_widthsF x1 1 0) (fun r2 => some (r2.1, r2.2.1, r2.2.2.1, r2.2.2.2)))))
set_option maxRecDepth 100000 in
set_option maxHeartbeats 4000000 in
theorem k_X4_signInRoot {D : va_G} {cs : q_CS} {a0 a0_widths a0_aboves a0_belows : Nat} {a0_row a0_column a0_height : Int} {a0_abovesF a0_belowsF a0_widthsF : (Nat → Int)} {x1 : Int} {r : (Int × Int × Int × Int)} (h : f_X4_signInRoot a0_row a0_column a0_height a0_abovesF a0_belowsF a0_widthsF x1 = some r) : q_M D cs yX4_signInRoot cX4_signInRoot 2 (some .int) 3 65 [.ref a0, .int (iI x1)] [(a0, .inr (4, [.ref a0_widths, .ref a0_aboves, .ref a0_belows, .int (iI a0_row), .int (iI a0_column), .int (iI a0_height)])), (a0_aboves, .inl (cs.1, 181, .inl (aI a0_abovesF))), (a0_belows, .inl (cs.1, 181, .inl (aI a0_belowsF))), (a0_widths, .inl (cs.1, 181, .inl (aI a0_widthsF)))] (some (.int (iI r.1))) [(a0, .inr (4, [.ref a0_widths, .ref a0_aboves, .ref a0_belows, .int (iI r.2.1), .int (iI r.2.2.1), .int (iI r.2.2.2)])), (a0_aboves, .inl (cs.1, 181, .inl (aI a0_abovesF))), (a0_belows, .inl (cs.1, 181, .inl (aI a0_belowsF))), (a0_widths, .inl (cs.1, 181, .inl (aI a0_widthsF)))] := by
  refine q_start_i [(0, .ref a0), (1, .int (iI x1))] RX4 rfl (by decide +kernel) rfl (Nat.le_of_ble_eq_true rfl) rfl (fun κ ok fin => ?_)
  unfold f_X4_signInRoot at h
  refine j_aload_n (pc := 0) 0 ok dX4_signInRoot_0 rfl rfl ?_
  refine gf_X4_82_4 (pc := 1) 0 ok rfl dX4_signInRoot_1 ?_
  refine j_aload_n (pc := 4) 0 ok dX4_signInRoot_4 rfl rfl ?_
  refine j_iload_n (pc := 5) 1 ok dX4_signInRoot_5 rfl rfl ?_
  obtain ⟨r1, hr1, h⟩ := bd_inv h
  refine j_callV (pc := 6) ok (k_X4_above (a0 := a0) (a0_widths := a0_widths) (a0_aboves := a0_aboves) (a0_belows := a0_belows) (a0_row := a0_row) (a0_column := a0_column) (a0_height := a0_height) (a0_abovesF := a0_abovesF) (x1 := x1) hr1) gV_X4_21 ⟨rfl, hd_X4_above⟩ [0, 1] (by decide) rfl rfl 0 rfl rfl rfl rfl ⟨Nat.zero_le _, Nat.zero_le _⟩ (Nat.le_of_ble_eq_true rfl) dX4_signInRoot_6 rfl [(a0, .inr (4, [.ref a0_widths, .ref a0_aboves, .ref a0_belows, .int (iI a0_row), .int (iI a0_column), .int (iI a0_height)])), (a0_aboves, .inl (cs.1, 181, .inl (aI a0_abovesF))), (a0_belows, .inl (cs.1, 181, .inl (aI a0_belowsF))), (a0_widths, .inl (cs.1, 181, .inl (aI a0_widthsF)))] rfl ?_
  refine j_ineg (pc := 9) ok dX4_signInRoot_9 ?_
  refine j_iconst (pc := 10) ok dX4_signInRoot_10 ?_
  refine j_isub (pc := 11) ok dX4_signInRoot_11 ?_
  refine j_icmp_ne (pc := 12) 30 ok dX4_signInRoot_12 (by decide) h (fun h => ?_) (fun h => ?_)
  · refine j_aload_n (pc := 30) 0 ok dX4_signInRoot_30 rfl rfl ?_
    refine gf_X4_79_4 (pc := 31) 0 ok rfl dX4_signInRoot_31 ?_
    refine j_if_ne (pc := 34) 53 ok dX4_signInRoot_34 (by decide) h (fun h => ?_) (fun h => ?_)
    · refine j_aload_n (pc := 53) 0 ok dX4_signInRoot_53 rfl rfl ?_
      refine j_iload_n (pc := 54) 1 ok dX4_signInRoot_54 rfl rfl ?_
      refine j_iconst (pc := 55) ok dX4_signInRoot_55 ?_
      refine j_iconst (pc := 56) ok dX4_signInRoot_56 ?_
      obtain ⟨r2, hr2, h⟩ := bd_inv h
      refine j_callV (pc := 57) ok (k_X4_enterSlot (a0 := a0) (a0_widths := a0_widths) (a0_aboves := a0_aboves) (a0_belows := a0_belows) (a0_row := a0_row) (a0_column := a0_column) (a0_height := a0_height) (a0_abovesF := a0_abovesF) (a0_belowsF := a0_belowsF) (a0_widthsF := a0_widthsF) (x1 := x1) (x2 := 1) (x3 := 0) hr2) gV_X4_98 ⟨rfl, hd_X4_enterSlot⟩ [0, 1, 2, 3] (by decide) rfl rfl 0 rfl rfl rfl rfl ⟨Nat.zero_le _, Nat.zero_le _⟩ (Nat.le_of_ble_eq_true rfl) dX4_signInRoot_57 rfl [(a0, .inr (4, [.ref a0_widths, .ref a0_aboves, .ref a0_belows, .int (iI r2.2.1), .int (iI r2.2.2.1), .int (iI r2.2.2.2)])), (a0_aboves, .inl (cs.1, 181, .inl (aI a0_abovesF))), (a0_belows, .inl (cs.1, 181, .inl (aI a0_belowsF))), (a0_widths, .inl (cs.1, 181, .inl (aI a0_widthsF)))] rfl ?_
      obtain rfl := Option.some.inj h
      exact fin _ 60 dX4_signInRoot_60
    · refine j_aload_n (pc := 37) 0 ok dX4_signInRoot_37 rfl rfl ?_
      refine j_iload_n (pc := 38) 1 ok dX4_signInRoot_38 rfl rfl ?_
      obtain ⟨r3, hr3, h⟩ := bd_inv h
      refine j_callV (pc := 39) ok (k_X4_isBeside (a0 := a0) (a0_widths := a0_widths) (a0_aboves := a0_aboves) (a0_belows := a0_belows) (a0_row := a0_row) (a0_column := a0_column) (a0_height := a0_height) (a0_abovesF := a0_abovesF) (a0_belowsF := a0_belowsF) (x1 := x1) hr3) gV_X4_111 ⟨rfl, hd_X4_isBeside⟩ [0, 1, 2] (by decide) rfl rfl 0 rfl rfl rfl rfl ⟨Nat.zero_le _, Nat.zero_le _⟩ (Nat.le_of_ble_eq_true rfl) dX4_signInRoot_39 rfl [(a0, .inr (4, [.ref a0_widths, .ref a0_aboves, .ref a0_belows, .int (iI a0_row), .int (iI a0_column), .int (iI a0_height)])), (a0_aboves, .inl (cs.1, 181, .inl (aI a0_abovesF))), (a0_belows, .inl (cs.1, 181, .inl (aI a0_belowsF))), (a0_widths, .inl (cs.1, 181, .inl (aI a0_widthsF)))] rfl ?_
      refine jn_use (P := fun z5 => q_J D κ 2 0 0 [(a0, .inr (4, [.ref a0_widths, .ref a0_aboves, .ref a0_belows, .int (iI a0_row), .int (iI a0_column), .int (iI a0_height)])), (a0_aboves, .inl (cs.1, 181, .inl (aI a0_abovesF))), (a0_belows, .inl (cs.1, 181, .inl (aI a0_belowsF))), (a0_widths, .inl (cs.1, 181, .inl (aI a0_widthsF)))] [] 52 [.int (iI z5)]) h (fun z5 h => ?_) (fun k4 hk4 h => ?_)
      · obtain rfl := Option.some.inj h
        exact fin _ 52 dX4_signInRoot_52
      · refine j_if_eq (pc := 42) 50 ok dX4_signInRoot_42 (by decide) h (fun h => ?_) (fun h => ?_)
        · refine j_bipush (pc := 50) ok dX4_signInRoot_50 (by decide) ?_
          refine j_lv [] rfl ?_
          exact hk4 32 h
        · refine j_bipush (pc := 45) ok dX4_signInRoot_45 (by decide) ?_
          refine j_goto (pc := 47) 52 ok dX4_signInRoot_47 (by decide) ?_
          refine j_lv [] rfl ?_
          exact hk4 86 h
  · refine j_aload_n (pc := 15) 0 ok dX4_signInRoot_15 rfl rfl ?_
    refine gf_X4_79_4 (pc := 16) 0 ok rfl dX4_signInRoot_16 ?_
    refine jn_use (P := fun z7 => q_J D κ 2 0 0 [(a0, .inr (4, [.ref a0_widths, .ref a0_aboves, .ref a0_belows, .int (iI a0_row), .int (iI a0_column), .int (iI a0_height)])), (a0_aboves, .inl (cs.1, 181, .inl (aI a0_abovesF))), (a0_belows, .inl (cs.1, 181, .inl (aI a0_belowsF))), (a0_widths, .inl (cs.1, 181, .inl (aI a0_widthsF)))] [] 29 [.int (iI z7)]) h (fun z7 h => ?_) (fun k6 hk6 h => ?_)
    · obtain rfl := Option.some.inj h
      exact fin _ 29 dX4_signInRoot_29
    · refine j_if_le (pc := 19) 27 ok dX4_signInRoot_19 (by decide) h (fun h => ?_) (fun h => ?_)
      · refine j_bipush (pc := 27) ok dX4_signInRoot_27 (by decide) ?_
        refine j_lv [] rfl ?_
        exact hk6 32 h
      · refine j_bipush (pc := 22) ok dX4_signInRoot_22 (by decide) ?_
        refine j_goto (pc := 24) 29 ok dX4_signInRoot_24 (by decide) ?_
        refine j_lv [] rfl ?_
        exact hk6 95 h
def f_X4_signInParentheses (a0_row : Int) (a0_column : Int) (a0_height : Int) (a0_abovesF : (Nat → Int)) (a0_belowsF : (Nat → Int)) (a0_widthsF : (Nat → Int)) (x1 : Int) : Option (Int × Int × Int × Int) := cEq a0_column 0 (bd (f_X4_isBeside a0_height a0_abovesF a0_belowsF x1) (fun r6 => jn (fun (z8 : Int) => some (z8, a0_row, a0_column, a0_height)) (fun k7 => cEq r6 0 (k7 32) (k7 40)))) (bd (f_X4_width a0_widthsF x1) (fun r1 => cEq a0_column (r1 + 1) (bd (f_X4_isBeside a0_height a0_abovesF a0_belowsF x1) (fun r3 => jn (fun (z5 : Int) => some (z5, a0_row, a0_column, a0_height)) (fun k4 => cEq r3 0 (k4 32) (k4 41)))) (bd (f_X4_enterSlot a0_row a0_column a0_height a0_abovesF a0_belowsF a0_widthsF x1 1 0) (fun r2 => some (r2.1, r2.2.1, r2.2.2.1, r2.2.2.2)))))
set_option maxRecDepth 100000 in
set_option maxHeartbeats 4000000 in
theorem k_X4_signInParentheses {D : va_G} {cs : q_CS} {a0 a0_widths a0_aboves a0_belows : Nat} {a0_row a0_column a0_height : Int} {a0_abovesF a0_belowsF a0_widthsF : (Nat → Int)} {x1 : Int} {r : (Int × Int × Int × Int)} (h : f_X4_signInParentheses a0_row a0_column a0_height a0_abovesF a0_belowsF a0_widthsF x1 = some r) : q_M D cs yX4_signInParentheses cX4_signInParentheses 2 (some .int) 3 65 [.ref a0, .int (iI x1)] [(a0, .inr (4, [.ref a0_widths, .ref a0_aboves, .ref a0_belows, .int (iI a0_row), .int (iI a0_column), .int (iI a0_height)])), (a0_aboves, .inl (cs.1, 181, .inl (aI a0_abovesF))), (a0_belows, .inl (cs.1, 181, .inl (aI a0_belowsF))), (a0_widths, .inl (cs.1, 181, .inl (aI a0_widthsF)))] (some (.int (iI r.1))) [(a0, .inr (4, [.ref a0_widths, .ref a0_aboves, .ref a0_belows, .int (iI r.2.1), .int (iI r.2.2.1), .int (iI r.2.2.2)])), (a0_aboves, .inl (cs.1, 181, .inl (aI a0_abovesF))), (a0_belows, .inl (cs.1, 181, .inl (aI a0_belowsF))), (a0_widths, .inl (cs.1, 181, .inl (aI a0_widthsF)))] := by
  refine q_start_i [(0, .ref a0), (1, .int (iI x1))] RX4 rfl (by decide +kernel) rfl (Nat.le_of_ble_eq_true rfl) rfl (fun κ ok fin => ?_)
  unfold f_X4_signInParentheses at h
  refine j_aload_n (pc := 0) 0 ok dX4_signInParentheses_0 rfl rfl ?_
  refine gf_X4_79_4 (pc := 1) 0 ok rfl dX4_signInParentheses_1 ?_
  refine j_if_ne (pc := 4) 23 ok dX4_signInParentheses_4 (by decide) h (fun h => ?_) (fun h => ?_)
  · refine j_aload_n (pc := 23) 0 ok dX4_signInParentheses_23 rfl rfl ?_
    refine gf_X4_79_4 (pc := 24) 0 ok rfl dX4_signInParentheses_24 ?_
    refine j_aload_n (pc := 27) 0 ok dX4_signInParentheses_27 rfl rfl ?_
    refine j_iload_n (pc := 28) 1 ok dX4_signInParentheses_28 rfl rfl ?_
    obtain ⟨r1, hr1, h⟩ := bd_inv h
    refine j_callV (pc := 29) ok (k_X4_width (a0 := a0) (a0_widths := a0_widths) (a0_aboves := a0_aboves) (a0_belows := a0_belows) (a0_row := a0_row) (a0_column := a0_column) (a0_height := a0_height) (a0_widthsF := a0_widthsF) (x1 := x1) hr1) gV_X4_67 ⟨rfl, hd_X4_width⟩ [0, 3] (by decide) rfl rfl 0 rfl rfl rfl rfl ⟨Nat.zero_le _, Nat.zero_le _⟩ (Nat.le_of_ble_eq_true rfl) dX4_signInParentheses_29 rfl [(a0, .inr (4, [.ref a0_widths, .ref a0_aboves, .ref a0_belows, .int (iI a0_row), .int (iI a0_column), .int (iI a0_height)])), (a0_aboves, .inl (cs.1, 181, .inl (aI a0_abovesF))), (a0_belows, .inl (cs.1, 181, .inl (aI a0_belowsF))), (a0_widths, .inl (cs.1, 181, .inl (aI a0_widthsF)))] rfl ?_
    refine j_iconst (pc := 32) ok dX4_signInParentheses_32 ?_
    refine j_iadd (pc := 33) ok dX4_signInParentheses_33 ?_
    refine j_icmp_ne (pc := 34) 53 ok dX4_signInParentheses_34 (by decide) h (fun h => ?_) (fun h => ?_)
    · refine j_aload_n (pc := 53) 0 ok dX4_signInParentheses_53 rfl rfl ?_
      refine j_iload_n (pc := 54) 1 ok dX4_signInParentheses_54 rfl rfl ?_
      refine j_iconst (pc := 55) ok dX4_signInParentheses_55 ?_
      refine j_iconst (pc := 56) ok dX4_signInParentheses_56 ?_
      obtain ⟨r2, hr2, h⟩ := bd_inv h
      refine j_callV (pc := 57) ok (k_X4_enterSlot (a0 := a0) (a0_widths := a0_widths) (a0_aboves := a0_aboves) (a0_belows := a0_belows) (a0_row := a0_row) (a0_column := a0_column) (a0_height := a0_height) (a0_abovesF := a0_abovesF) (a0_belowsF := a0_belowsF) (a0_widthsF := a0_widthsF) (x1 := x1) (x2 := 1) (x3 := 0) hr2) gV_X4_98 ⟨rfl, hd_X4_enterSlot⟩ [0, 1, 2, 3] (by decide) rfl rfl 0 rfl rfl rfl rfl ⟨Nat.zero_le _, Nat.zero_le _⟩ (Nat.le_of_ble_eq_true rfl) dX4_signInParentheses_57 rfl [(a0, .inr (4, [.ref a0_widths, .ref a0_aboves, .ref a0_belows, .int (iI r2.2.1), .int (iI r2.2.2.1), .int (iI r2.2.2.2)])), (a0_aboves, .inl (cs.1, 181, .inl (aI a0_abovesF))), (a0_belows, .inl (cs.1, 181, .inl (aI a0_belowsF))), (a0_widths, .inl (cs.1, 181, .inl (aI a0_widthsF)))] rfl ?_
      obtain rfl := Option.some.inj h
      exact fin _ 60 dX4_signInParentheses_60
    · refine j_aload_n (pc := 37) 0 ok dX4_signInParentheses_37 rfl rfl ?_
      refine j_iload_n (pc := 38) 1 ok dX4_signInParentheses_38 rfl rfl ?_
      obtain ⟨r3, hr3, h⟩ := bd_inv h
      refine j_callV (pc := 39) ok (k_X4_isBeside (a0 := a0) (a0_widths := a0_widths) (a0_aboves := a0_aboves) (a0_belows := a0_belows) (a0_row := a0_row) (a0_column := a0_column) (a0_height := a0_height) (a0_abovesF := a0_abovesF) (a0_belowsF := a0_belowsF) (x1 := x1) hr3) gV_X4_111 ⟨rfl, hd_X4_isBeside⟩ [0, 1, 2] (by decide) rfl rfl 0 rfl rfl rfl rfl ⟨Nat.zero_le _, Nat.zero_le _⟩ (Nat.le_of_ble_eq_true rfl) dX4_signInParentheses_39 rfl [(a0, .inr (4, [.ref a0_widths, .ref a0_aboves, .ref a0_belows, .int (iI a0_row), .int (iI a0_column), .int (iI a0_height)])), (a0_aboves, .inl (cs.1, 181, .inl (aI a0_abovesF))), (a0_belows, .inl (cs.1, 181, .inl (aI a0_belowsF))), (a0_widths, .inl (cs.1, 181, .inl (aI a0_widthsF)))] rfl ?_
      refine jn_use (P := fun z5 => q_J D κ 2 0 0 [(a0, .inr (4, [.ref a0_widths, .ref a0_aboves, .ref a0_belows, .int (iI a0_row), .int (iI a0_column), .int (iI a0_height)])), (a0_aboves, .inl (cs.1, 181, .inl (aI a0_abovesF))), (a0_belows, .inl (cs.1, 181, .inl (aI a0_belowsF))), (a0_widths, .inl (cs.1, 181, .inl (aI a0_widthsF)))] [] 52 [.int (iI z5)]) h (fun z5 h => ?_) (fun k4 hk4 h => ?_)
      · obtain rfl := Option.some.inj h
        exact fin _ 52 dX4_signInParentheses_52
      · refine j_if_eq (pc := 42) 50 ok dX4_signInParentheses_42 (by decide) h (fun h => ?_) (fun h => ?_)
        · refine j_bipush (pc := 50) ok dX4_signInParentheses_50 (by decide) ?_
          refine j_lv [] rfl ?_
          exact hk4 32 h
        · refine j_bipush (pc := 45) ok dX4_signInParentheses_45 (by decide) ?_
          refine j_goto (pc := 47) 52 ok dX4_signInParentheses_47 (by decide) ?_
          refine j_lv [] rfl ?_
          exact hk4 41 h
  · refine j_aload_n (pc := 7) 0 ok dX4_signInParentheses_7 rfl rfl ?_
    refine j_iload_n (pc := 8) 1 ok dX4_signInParentheses_8 rfl rfl ?_
    obtain ⟨r6, hr6, h⟩ := bd_inv h
    refine j_callV (pc := 9) ok (k_X4_isBeside (a0 := a0) (a0_widths := a0_widths) (a0_aboves := a0_aboves) (a0_belows := a0_belows) (a0_row := a0_row) (a0_column := a0_column) (a0_height := a0_height) (a0_abovesF := a0_abovesF) (a0_belowsF := a0_belowsF) (x1 := x1) hr6) gV_X4_111 ⟨rfl, hd_X4_isBeside⟩ [0, 1, 2] (by decide) rfl rfl 0 rfl rfl rfl rfl ⟨Nat.zero_le _, Nat.zero_le _⟩ (Nat.le_of_ble_eq_true rfl) dX4_signInParentheses_9 rfl [(a0, .inr (4, [.ref a0_widths, .ref a0_aboves, .ref a0_belows, .int (iI a0_row), .int (iI a0_column), .int (iI a0_height)])), (a0_aboves, .inl (cs.1, 181, .inl (aI a0_abovesF))), (a0_belows, .inl (cs.1, 181, .inl (aI a0_belowsF))), (a0_widths, .inl (cs.1, 181, .inl (aI a0_widthsF)))] rfl ?_
    refine jn_use (P := fun z8 => q_J D κ 2 0 0 [(a0, .inr (4, [.ref a0_widths, .ref a0_aboves, .ref a0_belows, .int (iI a0_row), .int (iI a0_column), .int (iI a0_height)])), (a0_aboves, .inl (cs.1, 181, .inl (aI a0_abovesF))), (a0_belows, .inl (cs.1, 181, .inl (aI a0_belowsF))), (a0_widths, .inl (cs.1, 181, .inl (aI a0_widthsF)))] [] 22 [.int (iI z8)]) h (fun z8 h => ?_) (fun k7 hk7 h => ?_)
    · obtain rfl := Option.some.inj h
      exact fin _ 22 dX4_signInParentheses_22
    · refine j_if_eq (pc := 12) 20 ok dX4_signInParentheses_12 (by decide) h (fun h => ?_) (fun h => ?_)
      · refine j_bipush (pc := 20) ok dX4_signInParentheses_20 (by decide) ?_
        refine j_lv [] rfl ?_
        exact hk7 32 h
      · refine j_bipush (pc := 15) ok dX4_signInParentheses_15 (by decide) ?_
        refine j_goto (pc := 17) 22 ok dX4_signInParentheses_17 (by decide) ?_
        refine j_lv [] rfl ?_
        exact hk7 40 h
def f_X4_signInRow (a1_marksN : Nat) (a0_row : Int) (a0_column : Int) (a0_height : Int) (a0_abovesF : (Nat → Int)) (a0_belowsF : (Nat → Int)) (a0_widthsF : (Nat → Int)) (a1_size : Int) (a1_marksF : (Nat → Int)) : Option (Int × Int × Int × Int) := bd (f_X3_mark a1_marksN a1_size a1_marksF a0_row) (fun r1 => bd (f_X7_startsItem r1) (fun r2 => cEq r2 0 (jn (fun (z16 : Int) => some (z16, a0_row, a0_column, a0_height)) (fun k15 => cEq a0_height 0 (k15 63) (k15 32))) (bd (f_X4_itemAtColumn a1_marksN a0_row a0_column a0_widthsF a1_size a1_marksF) (fun r3 => bd (f_X3_mark a1_marksN a1_size a1_marksF r3.1) (fun r4 => cEq r4 1 (bd (f_X4_signInFraction a1_marksN a0_row r3.2 a0_height a0_abovesF a0_belowsF a0_widthsF a1_size a1_marksF r3.1) (fun r5 => some (r5.1, r5.2.1, r5.2.2.1, r5.2.2.2))) (cEq r4 2 (bd (f_X4_upwards a0_belowsF (r3.1 + 1)) (fun r6 => bd (f_X4_enterSlot a0_row r3.2 a0_height a0_abovesF a0_belowsF a0_widthsF (r3.1 + 1) 0 r6) (fun r7 => some (r7.1, r7.2.1, r7.2.2.1, r7.2.2.2)))) (cEq r4 3 (bd (f_X4_downwards a0_abovesF (r3.1 + 1)) (fun r8 => bd (f_X4_enterSlot a0_row r3.2 a0_height a0_abovesF a0_belowsF a0_widthsF (r3.1 + 1) 0 r8) (fun r9 => some (r9.1, r9.2.1, r9.2.2.1, r9.2.2.2)))) (cEq r4 4 (bd (f_X4_signInRoot a0_row r3.2 a0_height a0_abovesF a0_belowsF a0_widthsF (r3.1 + 1)) (fun r10 => some (r10.1, r10.2.1, r10.2.2.1, r10.2.2.2))) (cEq r4 5 (bd (f_X4_signInParentheses a0_row r3.2 a0_height a0_abovesF a0_belowsF a0_widthsF (r3.1 + 1)) (fun r11 => some (r11.1, r11.2.1, r11.2.2.1, r11.2.2.2))) (jn (fun (z14 : Int) => some (z14, a0_row, r3.2, a0_height)) (fun k12 => cEq a0_height 0 (bd (f_X3_mark a1_marksN a1_size a1_marksF r3.1) (fun r13 => k12 r13)) (k12 32))))))))))))
set_option maxRecDepth 100000 in
set_option maxHeartbeats 4000000 in
theorem k_X4_signInRow {D : va_G} {cs : q_CS} {a0 a0_widths a0_aboves a0_belows a1 a1_marks : Nat} {a1_marksN : Nat} {a1_ci : Nat} {a1_fx : List Value} {a0_row a0_column a0_height a1_size : Int} {a0_abovesF a0_belowsF a0_widthsF a1_marksF : (Nat → Int)} {r : (Int × Int × Int × Int)} (ha1 : q_mk a1_ci a1_fx) (h : f_X4_signInRow a1_marksN a0_row a0_column a0_height a0_abovesF a0_belowsF a0_widthsF a1_size a1_marksF = some r) : q_M D cs yX4_signInRow cX4_signInRow 3 (some .int) 4 92 [.ref a0, .ref a1] [(a0, .inr (4, [.ref a0_widths, .ref a0_aboves, .ref a0_belows, .int (iI a0_row), .int (iI a0_column), .int (iI a0_height)])), (a0_aboves, .inl (cs.1, 181, .inl (aI a0_abovesF))), (a0_belows, .inl (cs.1, 181, .inl (aI a0_belowsF))), (a0_widths, .inl (cs.1, 181, .inl (aI a0_widthsF))), (a1, .inr (a1_ci, .ref a1_marks :: .int (iI a1_size) :: a1_fx)), (a1_marks, .inl (cs.1, a1_marksN, .inl (aI a1_marksF)))] (some (.int (iI r.1))) [(a0, .inr (4, [.ref a0_widths, .ref a0_aboves, .ref a0_belows, .int (iI r.2.1), .int (iI r.2.2.1), .int (iI r.2.2.2)])), (a0_aboves, .inl (cs.1, 181, .inl (aI a0_abovesF))), (a0_belows, .inl (cs.1, 181, .inl (aI a0_belowsF))), (a0_widths, .inl (cs.1, 181, .inl (aI a0_widthsF))), (a1, .inr (a1_ci, .ref a1_marks :: .int (iI a1_size) :: a1_fx)), (a1_marks, .inl (cs.1, a1_marksN, .inl (aI a1_marksF)))] := by
  refine q_start_i [(0, .ref a0), (1, .ref a1)] RX4 rfl (by decide +kernel) rfl (Nat.le_of_ble_eq_true rfl) rfl (fun κ ok fin => ?_)
  unfold f_X4_signInRow at h
  refine j_aload_n (pc := 0) 1 ok dX4_signInRow_0 rfl rfl ?_
  refine j_aload_n (pc := 1) 0 ok dX4_signInRow_1 rfl rfl ?_
  refine gf_X4_76_4 (pc := 2) 0 ok rfl dX4_signInRow_2 ?_
  obtain ⟨r1, hr1, h⟩ := bd_inv h
  refine j_callM (pc := 5) ok ha1 (k_X3_mark (a0 := a1) (a0_marks := a1_marks) (a0_ci := a1_ci) (a0_fx := a1_fx) (a0_marksN := a1_marksN) (a0_size := a1_size) (a0_marksF := a1_marksF) (x1 := a0_row) ha1 hr1) gU_X4_34 rfl hd_X3_mark gV_X4_34 ⟨rfl, hd_X3_mark⟩ [4, 5] (by decide) rfl rfl 4 rfl rfl rfl ⟨Nat.zero_le _, Nat.zero_le _⟩ (Nat.le_of_ble_eq_true rfl) dX4_signInRow_5 rfl [(a0, .inr (4, [.ref a0_widths, .ref a0_aboves, .ref a0_belows, .int (iI a0_row), .int (iI a0_column), .int (iI a0_height)])), (a0_aboves, .inl (cs.1, 181, .inl (aI a0_abovesF))), (a0_belows, .inl (cs.1, 181, .inl (aI a0_belowsF))), (a0_widths, .inl (cs.1, 181, .inl (aI a0_widthsF))), (a1, .inr (a1_ci, .ref a1_marks :: .int (iI a1_size) :: a1_fx)), (a1_marks, .inl (cs.1, a1_marksN, .inl (aI a1_marksF)))] rfl ?_
  obtain ⟨r2, hr2, h⟩ := bd_inv h
  refine j_callN (pc := 8) ok (k_X7_startsItem (x0 := r1) hr2) gN_X4_45 gNw_X4_45 gNi_X4_45 gNs_X4_45 hd_X7_startsItem [] (by decide) rfl rfl rfl rfl ⟨Nat.zero_le _, Nat.zero_le _⟩ (Nat.le_of_ble_eq_true rfl) dX4_signInRow_8 rfl [(a0, .inr (4, [.ref a0_widths, .ref a0_aboves, .ref a0_belows, .int (iI a0_row), .int (iI a0_column), .int (iI a0_height)])), (a0_aboves, .inl (cs.1, 181, .inl (aI a0_abovesF))), (a0_belows, .inl (cs.1, 181, .inl (aI a0_belowsF))), (a0_widths, .inl (cs.1, 181, .inl (aI a0_widthsF))), (a1, .inr (a1_ci, .ref a1_marks :: .int (iI a1_size) :: a1_fx)), (a1_marks, .inl (cs.1, a1_marksN, .inl (aI a1_marksF)))] rfl ?_
  refine j_if_ne (pc := 11) 29 ok dX4_signInRow_11 (by decide) h (fun h => ?_) (fun h => ?_)
  · refine j_aload_n (pc := 29) 0 ok dX4_signInRow_29 rfl rfl ?_
    refine j_aload_n (pc := 30) 1 ok dX4_signInRow_30 rfl rfl ?_
    obtain ⟨r3, hr3, h⟩ := bd_inv h
    refine j_callV (pc := 31) ok (k_X4_itemAtColumn (a0 := a0) (a0_widths := a0_widths) (a0_aboves := a0_aboves) (a0_belows := a0_belows) (a1 := a1) (a1_marks := a1_marks) (a1_ci := a1_ci) (a1_fx := a1_fx) (a1_marksN := a1_marksN) (a0_row := a0_row) (a0_column := a0_column) (a0_height := a0_height) (a0_widthsF := a0_widthsF) (a1_size := a1_size) (a1_marksF := a1_marksF) ha1 hr3) gV_X4_89 ⟨rfl, hd_X4_itemAtColumn⟩ [0, 3, 4, 5] (by decide) rfl rfl 0 rfl rfl rfl rfl ⟨Nat.zero_le _, Nat.zero_le _⟩ (Nat.le_of_ble_eq_true rfl) dX4_signInRow_31 rfl [(a0, .inr (4, [.ref a0_widths, .ref a0_aboves, .ref a0_belows, .int (iI a0_row), .int (iI r3.2), .int (iI a0_height)])), (a0_aboves, .inl (cs.1, 181, .inl (aI a0_abovesF))), (a0_belows, .inl (cs.1, 181, .inl (aI a0_belowsF))), (a0_widths, .inl (cs.1, 181, .inl (aI a0_widthsF))), (a1, .inr (a1_ci, .ref a1_marks :: .int (iI a1_size) :: a1_fx)), (a1_marks, .inl (cs.1, a1_marksN, .inl (aI a1_marksF)))] rfl ?_
    refine j_istore_n (pc := 34) (lv' := [(2, .int (iI r3.1)), (0, .ref a0), (1, .ref a1)]) ok dX4_signInRow_34 rfl (by decide) rfl ?_
    refine j_aload_n (pc := 35) 2 ok dX4_signInRow_35 rfl rfl ?_
    refine j_iload_n (pc := 36) 0 ok dX4_signInRow_36 rfl rfl ?_
    obtain ⟨r4, hr4, h⟩ := bd_inv h
    refine j_callM (pc := 37) ok ha1 (k_X3_mark (a0 := a1) (a0_marks := a1_marks) (a0_ci := a1_ci) (a0_fx := a1_fx) (a0_marksN := a1_marksN) (a0_size := a1_size) (a0_marksF := a1_marksF) (x1 := r3.1) ha1 hr4) gU_X4_34 rfl hd_X3_mark gV_X4_34 ⟨rfl, hd_X3_mark⟩ [4, 5] (by decide) rfl rfl 4 rfl rfl rfl ⟨Nat.zero_le _, Nat.zero_le _⟩ (Nat.le_of_ble_eq_true rfl) dX4_signInRow_37 rfl [(a0, .inr (4, [.ref a0_widths, .ref a0_aboves, .ref a0_belows, .int (iI a0_row), .int (iI r3.2), .int (iI a0_height)])), (a0_aboves, .inl (cs.1, 181, .inl (aI a0_abovesF))), (a0_belows, .inl (cs.1, 181, .inl (aI a0_belowsF))), (a0_widths, .inl (cs.1, 181, .inl (aI a0_widthsF))), (a1, .inr (a1_ci, .ref a1_marks :: .int (iI a1_size) :: a1_fx)), (a1_marks, .inl (cs.1, a1_marksN, .inl (aI a1_marksF)))] rfl ?_
    obtain ⟨hR, h1, h2⟩ := cEq_inv h
    by_cases e40_1 : r4 = 1
    · have h := h1 e40_1
      refine j_tabIn (pc := 40) 1 76 ok dX4_signInRow_40 hR.1 e40_1 (by decide) rfl (by decide) ?_
      refine j_aload_n (pc := 76) 1 ok dX4_signInRow_76 rfl rfl ?_
      refine j_aload_n (pc := 77) 2 ok dX4_signInRow_77 rfl rfl ?_
      refine j_iload_n (pc := 78) 0 ok dX4_signInRow_78 rfl rfl ?_
      obtain ⟨r5, hr5, h⟩ := bd_inv h
      refine j_callV (pc := 79) ok (k_X4_signInFraction (a0 := a0) (a0_widths := a0_widths) (a0_aboves := a0_aboves) (a0_belows := a0_belows) (a1 := a1) (a1_marks := a1_marks) (a1_ci := a1_ci) (a1_fx := a1_fx) (a1_marksN := a1_marksN) (a0_row := a0_row) (a0_column := r3.2) (a0_height := a0_height) (a0_abovesF := a0_abovesF) (a0_belowsF := a0_belowsF) (a0_widthsF := a0_widthsF) (a1_size := a1_size) (a1_marksF := a1_marksF) (x2 := r3.1) ha1 hr5) gV_X4_92 ⟨rfl, hd_X4_signInFraction⟩ [0, 1, 2, 3, 4, 5] (by decide) rfl rfl 0 rfl rfl rfl rfl ⟨Nat.zero_le _, Nat.zero_le _⟩ (Nat.le_of_ble_eq_true rfl) dX4_signInRow_79 rfl [(a0, .inr (4, [.ref a0_widths, .ref a0_aboves, .ref a0_belows, .int (iI r5.2.1), .int (iI r5.2.2.1), .int (iI r5.2.2.2)])), (a0_aboves, .inl (cs.1, 181, .inl (aI a0_abovesF))), (a0_belows, .inl (cs.1, 181, .inl (aI a0_belowsF))), (a0_widths, .inl (cs.1, 181, .inl (aI a0_widthsF))), (a1, .inr (a1_ci, .ref a1_marks :: .int (iI a1_size) :: a1_fx)), (a1_marks, .inl (cs.1, a1_marksN, .inl (aI a1_marksF)))] rfl ?_
      obtain rfl := Option.some.inj h
      exact fin _ 82 dX4_signInRow_82
    · have h := h2 e40_1
      obtain ⟨hR, h1, h2⟩ := cEq_inv h
      by_cases e40_2 : r4 = 2
      · have h := h1 e40_2
        refine j_tabIn (pc := 40) 2 83 ok dX4_signInRow_40 hR.1 e40_2 (by decide) rfl (by decide) ?_
        refine j_aload_n (pc := 83) 1 ok dX4_signInRow_83 rfl rfl ?_
        refine j_iload_n (pc := 84) 0 ok dX4_signInRow_84 rfl rfl ?_
        refine j_iconst (pc := 85) ok dX4_signInRow_85 ?_
        refine j_iadd (pc := 86) ok dX4_signInRow_86 ?_
        refine j_iconst (pc := 87) ok dX4_signInRow_87 ?_
        refine j_aload_n (pc := 88) 1 ok dX4_signInRow_88 rfl rfl ?_
        refine j_iload_n (pc := 89) 0 ok dX4_signInRow_89 rfl rfl ?_
        refine j_iconst (pc := 90) ok dX4_signInRow_90 ?_
        refine j_iadd (pc := 91) ok dX4_signInRow_91 ?_
        obtain ⟨r6, hr6, h⟩ := bd_inv h
        refine j_callV (pc := 92) ok (k_X4_upwards (a0 := a0) (a0_widths := a0_widths) (a0_aboves := a0_aboves) (a0_belows := a0_belows) (a0_row := a0_row) (a0_column := r3.2) (a0_height := a0_height) (a0_belowsF := a0_belowsF) (x1 := r3.1 + 1) hr6) gV_X4_95 ⟨rfl, hd_X4_upwards⟩ [0, 2] (by decide) rfl rfl 0 rfl rfl rfl rfl ⟨Nat.zero_le _, Nat.zero_le _⟩ (Nat.le_of_ble_eq_true rfl) dX4_signInRow_92 rfl [(a0, .inr (4, [.ref a0_widths, .ref a0_aboves, .ref a0_belows, .int (iI a0_row), .int (iI r3.2), .int (iI a0_height)])), (a0_aboves, .inl (cs.1, 181, .inl (aI a0_abovesF))), (a0_belows, .inl (cs.1, 181, .inl (aI a0_belowsF))), (a0_widths, .inl (cs.1, 181, .inl (aI a0_widthsF))), (a1, .inr (a1_ci, .ref a1_marks :: .int (iI a1_size) :: a1_fx)), (a1_marks, .inl (cs.1, a1_marksN, .inl (aI a1_marksF)))] rfl ?_
        obtain ⟨r7, hr7, h⟩ := bd_inv h
        refine j_callV (pc := 95) ok (k_X4_enterSlot (a0 := a0) (a0_widths := a0_widths) (a0_aboves := a0_aboves) (a0_belows := a0_belows) (a0_row := a0_row) (a0_column := r3.2) (a0_height := a0_height) (a0_abovesF := a0_abovesF) (a0_belowsF := a0_belowsF) (a0_widthsF := a0_widthsF) (x1 := r3.1 + 1) (x2 := 0) (x3 := r6) hr7) gV_X4_98 ⟨rfl, hd_X4_enterSlot⟩ [0, 1, 2, 3] (by decide) rfl rfl 0 rfl rfl rfl rfl ⟨Nat.zero_le _, Nat.zero_le _⟩ (Nat.le_of_ble_eq_true rfl) dX4_signInRow_95 rfl [(a0, .inr (4, [.ref a0_widths, .ref a0_aboves, .ref a0_belows, .int (iI r7.2.1), .int (iI r7.2.2.1), .int (iI r7.2.2.2)])), (a0_aboves, .inl (cs.1, 181, .inl (aI a0_abovesF))), (a0_belows, .inl (cs.1, 181, .inl (aI a0_belowsF))), (a0_widths, .inl (cs.1, 181, .inl (aI a0_widthsF))), (a1, .inr (a1_ci, .ref a1_marks :: .int (iI a1_size) :: a1_fx)), (a1_marks, .inl (cs.1, a1_marksN, .inl (aI a1_marksF)))] rfl ?_
        obtain rfl := Option.some.inj h
        exact fin _ 98 dX4_signInRow_98
      · have h := h2 e40_2
        obtain ⟨hR, h1, h2⟩ := cEq_inv h
        by_cases e40_3 : r4 = 3
        · have h := h1 e40_3
          refine j_tabIn (pc := 40) 3 99 ok dX4_signInRow_40 hR.1 e40_3 (by decide) rfl (by decide) ?_
          refine j_aload_n (pc := 99) 1 ok dX4_signInRow_99 rfl rfl ?_
          refine j_iload_n (pc := 100) 0 ok dX4_signInRow_100 rfl rfl ?_
          refine j_iconst (pc := 101) ok dX4_signInRow_101 ?_
          refine j_iadd (pc := 102) ok dX4_signInRow_102 ?_
          refine j_iconst (pc := 103) ok dX4_signInRow_103 ?_
          refine j_aload_n (pc := 104) 1 ok dX4_signInRow_104 rfl rfl ?_
          refine j_iload_n (pc := 105) 0 ok dX4_signInRow_105 rfl rfl ?_
          refine j_iconst (pc := 106) ok dX4_signInRow_106 ?_
          refine j_iadd (pc := 107) ok dX4_signInRow_107 ?_
          obtain ⟨r8, hr8, h⟩ := bd_inv h
          refine j_callV (pc := 108) ok (k_X4_downwards (a0 := a0) (a0_widths := a0_widths) (a0_aboves := a0_aboves) (a0_belows := a0_belows) (a0_row := a0_row) (a0_column := r3.2) (a0_height := a0_height) (a0_abovesF := a0_abovesF) (x1 := r3.1 + 1) hr8) gV_X4_102 ⟨rfl, hd_X4_downwards⟩ [0, 1] (by decide) rfl rfl 0 rfl rfl rfl rfl ⟨Nat.zero_le _, Nat.zero_le _⟩ (Nat.le_of_ble_eq_true rfl) dX4_signInRow_108 rfl [(a0, .inr (4, [.ref a0_widths, .ref a0_aboves, .ref a0_belows, .int (iI a0_row), .int (iI r3.2), .int (iI a0_height)])), (a0_aboves, .inl (cs.1, 181, .inl (aI a0_abovesF))), (a0_belows, .inl (cs.1, 181, .inl (aI a0_belowsF))), (a0_widths, .inl (cs.1, 181, .inl (aI a0_widthsF))), (a1, .inr (a1_ci, .ref a1_marks :: .int (iI a1_size) :: a1_fx)), (a1_marks, .inl (cs.1, a1_marksN, .inl (aI a1_marksF)))] rfl ?_
          obtain ⟨r9, hr9, h⟩ := bd_inv h
          refine j_callV (pc := 111) ok (k_X4_enterSlot (a0 := a0) (a0_widths := a0_widths) (a0_aboves := a0_aboves) (a0_belows := a0_belows) (a0_row := a0_row) (a0_column := r3.2) (a0_height := a0_height) (a0_abovesF := a0_abovesF) (a0_belowsF := a0_belowsF) (a0_widthsF := a0_widthsF) (x1 := r3.1 + 1) (x2 := 0) (x3 := r8) hr9) gV_X4_98 ⟨rfl, hd_X4_enterSlot⟩ [0, 1, 2, 3] (by decide) rfl rfl 0 rfl rfl rfl rfl ⟨Nat.zero_le _, Nat.zero_le _⟩ (Nat.le_of_ble_eq_true rfl) dX4_signInRow_111 rfl [(a0, .inr (4, [.ref a0_widths, .ref a0_aboves, .ref a0_belows, .int (iI r9.2.1), .int (iI r9.2.2.1), .int (iI r9.2.2.2)])), (a0_aboves, .inl (cs.1, 181, .inl (aI a0_abovesF))), (a0_belows, .inl (cs.1, 181, .inl (aI a0_belowsF))), (a0_widths, .inl (cs.1, 181, .inl (aI a0_widthsF))), (a1, .inr (a1_ci, .ref a1_marks :: .int (iI a1_size) :: a1_fx)), (a1_marks, .inl (cs.1, a1_marksN, .inl (aI a1_marksF)))] rfl ?_
          obtain rfl := Option.some.inj h
          exact fin _ 114 dX4_signInRow_114
        · have h := h2 e40_3
          obtain ⟨hR, h1, h2⟩ := cEq_inv h
          by_cases e40_4 : r4 = 4
          · have h := h1 e40_4
            refine j_tabIn (pc := 40) 4 115 ok dX4_signInRow_40 hR.1 e40_4 (by decide) rfl (by decide) ?_
            refine j_aload_n (pc := 115) 1 ok dX4_signInRow_115 rfl rfl ?_
            refine j_iload_n (pc := 116) 0 ok dX4_signInRow_116 rfl rfl ?_
            refine j_iconst (pc := 117) ok dX4_signInRow_117 ?_
            refine j_iadd (pc := 118) ok dX4_signInRow_118 ?_
            obtain ⟨r10, hr10, h⟩ := bd_inv h
            refine j_callV (pc := 119) ok (k_X4_signInRoot (a0 := a0) (a0_widths := a0_widths) (a0_aboves := a0_aboves) (a0_belows := a0_belows) (a0_row := a0_row) (a0_column := r3.2) (a0_height := a0_height) (a0_abovesF := a0_abovesF) (a0_belowsF := a0_belowsF) (a0_widthsF := a0_widthsF) (x1 := r3.1 + 1) hr10) gV_X4_105 ⟨rfl, hd_X4_signInRoot⟩ [0, 1, 2, 3] (by decide) rfl rfl 0 rfl rfl rfl rfl ⟨Nat.zero_le _, Nat.zero_le _⟩ (Nat.le_of_ble_eq_true rfl) dX4_signInRow_119 rfl [(a0, .inr (4, [.ref a0_widths, .ref a0_aboves, .ref a0_belows, .int (iI r10.2.1), .int (iI r10.2.2.1), .int (iI r10.2.2.2)])), (a0_aboves, .inl (cs.1, 181, .inl (aI a0_abovesF))), (a0_belows, .inl (cs.1, 181, .inl (aI a0_belowsF))), (a0_widths, .inl (cs.1, 181, .inl (aI a0_widthsF))), (a1, .inr (a1_ci, .ref a1_marks :: .int (iI a1_size) :: a1_fx)), (a1_marks, .inl (cs.1, a1_marksN, .inl (aI a1_marksF)))] rfl ?_
            obtain rfl := Option.some.inj h
            exact fin _ 122 dX4_signInRow_122
          · have h := h2 e40_4
            obtain ⟨hR, h1, h2⟩ := cEq_inv h
            by_cases e40_5 : r4 = 5
            · have h := h1 e40_5
              refine j_tabIn (pc := 40) 5 123 ok dX4_signInRow_40 hR.1 e40_5 (by decide) rfl (by decide) ?_
              refine j_aload_n (pc := 123) 1 ok dX4_signInRow_123 rfl rfl ?_
              refine j_iload_n (pc := 124) 0 ok dX4_signInRow_124 rfl rfl ?_
              refine j_iconst (pc := 125) ok dX4_signInRow_125 ?_
              refine j_iadd (pc := 126) ok dX4_signInRow_126 ?_
              obtain ⟨r11, hr11, h⟩ := bd_inv h
              refine j_callV (pc := 127) ok (k_X4_signInParentheses (a0 := a0) (a0_widths := a0_widths) (a0_aboves := a0_aboves) (a0_belows := a0_belows) (a0_row := a0_row) (a0_column := r3.2) (a0_height := a0_height) (a0_abovesF := a0_abovesF) (a0_belowsF := a0_belowsF) (a0_widthsF := a0_widthsF) (x1 := r3.1 + 1) hr11) gV_X4_108 ⟨rfl, hd_X4_signInParentheses⟩ [0, 1, 2, 3] (by decide) rfl rfl 0 rfl rfl rfl rfl ⟨Nat.zero_le _, Nat.zero_le _⟩ (Nat.le_of_ble_eq_true rfl) dX4_signInRow_127 rfl [(a0, .inr (4, [.ref a0_widths, .ref a0_aboves, .ref a0_belows, .int (iI r11.2.1), .int (iI r11.2.2.1), .int (iI r11.2.2.2)])), (a0_aboves, .inl (cs.1, 181, .inl (aI a0_abovesF))), (a0_belows, .inl (cs.1, 181, .inl (aI a0_belowsF))), (a0_widths, .inl (cs.1, 181, .inl (aI a0_widthsF))), (a1, .inr (a1_ci, .ref a1_marks :: .int (iI a1_size) :: a1_fx)), (a1_marks, .inl (cs.1, a1_marksN, .inl (aI a1_marksF)))] rfl ?_
              obtain rfl := Option.some.inj h
              exact fin _ 130 dX4_signInRow_130
            · have h := h2 e40_5
              refine j_tabOut (pc := 40) 131 ok dX4_signInRow_40 hR.1 (by omega) (by decide) ?_
              refine j_aload_n (pc := 131) 1 ok dX4_signInRow_131 rfl rfl ?_
              refine gf_X4_82_4 (pc := 132) 0 ok rfl dX4_signInRow_132 ?_
              refine jn_use (P := fun z14 => q_J D κ 3 0 0 [(a0, .inr (4, [.ref a0_widths, .ref a0_aboves, .ref a0_belows, .int (iI a0_row), .int (iI r3.2), .int (iI a0_height)])), (a0_aboves, .inl (cs.1, 181, .inl (aI a0_abovesF))), (a0_belows, .inl (cs.1, 181, .inl (aI a0_belowsF))), (a0_widths, .inl (cs.1, 181, .inl (aI a0_widthsF))), (a1, .inr (a1_ci, .ref a1_marks :: .int (iI a1_size) :: a1_fx)), (a1_marks, .inl (cs.1, a1_marksN, .inl (aI a1_marksF)))] [] 148 [.int (iI z14)]) h (fun z14 h => ?_) (fun k12 hk12 h => ?_)
              · obtain rfl := Option.some.inj h
                exact fin _ 148 dX4_signInRow_148
              · refine j_if_ne (pc := 135) 146 ok dX4_signInRow_135 (by decide) h (fun h => ?_) (fun h => ?_)
                · refine j_bipush (pc := 146) ok dX4_signInRow_146 (by decide) ?_
                  refine j_lv [] rfl ?_
                  exact hk12 32 h
                · refine j_aload_n (pc := 138) 2 ok dX4_signInRow_138 rfl rfl ?_
                  refine j_iload_n (pc := 139) 0 ok dX4_signInRow_139 rfl rfl ?_
                  obtain ⟨r13, hr13, h⟩ := bd_inv h
                  refine j_callM (pc := 140) ok ha1 (k_X3_mark (a0 := a1) (a0_marks := a1_marks) (a0_ci := a1_ci) (a0_fx := a1_fx) (a0_marksN := a1_marksN) (a0_size := a1_size) (a0_marksF := a1_marksF) (x1 := r3.1) ha1 hr13) gU_X4_34 rfl hd_X3_mark gV_X4_34 ⟨rfl, hd_X3_mark⟩ [4, 5] (by decide) rfl rfl 4 rfl rfl rfl ⟨Nat.zero_le _, Nat.zero_le _⟩ (Nat.le_of_ble_eq_true rfl) dX4_signInRow_140 rfl [(a0, .inr (4, [.ref a0_widths, .ref a0_aboves, .ref a0_belows, .int (iI a0_row), .int (iI r3.2), .int (iI a0_height)])), (a0_aboves, .inl (cs.1, 181, .inl (aI a0_abovesF))), (a0_belows, .inl (cs.1, 181, .inl (aI a0_belowsF))), (a0_widths, .inl (cs.1, 181, .inl (aI a0_widthsF))), (a1, .inr (a1_ci, .ref a1_marks :: .int (iI a1_size) :: a1_fx)), (a1_marks, .inl (cs.1, a1_marksN, .inl (aI a1_marksF)))] rfl ?_
                  refine j_goto (pc := 143) 148 ok dX4_signInRow_143 (by decide) ?_
                  refine j_lv [] rfl ?_
                  exact hk12 r13 h
  · refine j_aload_n (pc := 14) 0 ok dX4_signInRow_14 rfl rfl ?_
    refine gf_X4_82_4 (pc := 15) 0 ok rfl dX4_signInRow_15 ?_
    refine jn_use (P := fun z16 => q_J D κ 3 0 0 [(a0, .inr (4, [.ref a0_widths, .ref a0_aboves, .ref a0_belows, .int (iI a0_row), .int (iI a0_column), .int (iI a0_height)])), (a0_aboves, .inl (cs.1, 181, .inl (aI a0_abovesF))), (a0_belows, .inl (cs.1, 181, .inl (aI a0_belowsF))), (a0_widths, .inl (cs.1, 181, .inl (aI a0_widthsF))), (a1, .inr (a1_ci, .ref a1_marks :: .int (iI a1_size) :: a1_fx)), (a1_marks, .inl (cs.1, a1_marksN, .inl (aI a1_marksF)))] [] 28 [.int (iI z16)]) h (fun z16 h => ?_) (fun k15 hk15 h => ?_)
    · obtain rfl := Option.some.inj h
      exact fin _ 28 dX4_signInRow_28
    · refine j_if_ne (pc := 18) 26 ok dX4_signInRow_18 (by decide) h (fun h => ?_) (fun h => ?_)
      · refine j_bipush (pc := 26) ok dX4_signInRow_26 (by decide) ?_
        refine j_lv [] rfl ?_
        exact hk15 32 h
      · refine j_bipush (pc := 21) ok dX4_signInRow_21 (by decide) ?_
        refine j_goto (pc := 23) 28 ok dX4_signInRow_23 (by decide) ?_
        refine j_lv [] rfl ?_
        exact hk15 63 h
def f_X4_signAt_24 (a1_marksN : Nat) (a0_abovesF : (Nat → Int)) (a0_belowsF : (Nat → Int)) (a0_widthsF : (Nat → Int)) (a1_size : Int) (a1_marksF : (Nat → Int)) (e24_53 : Int × Int × Int × Int → Option (Int × Int × Int × Int)) : Nat → Int → Int → Int → Int → Option (Int × Int × Int × Int)
  | 0, _, _, _, _ => none
  | n + 1, a0_row, a0_column, a0_height, y4 => cLt 5 y4 (e24_53 (a0_row, a0_column, a0_height, y4)) (bd (f_X4_signInRow a1_marksN a0_row a0_column a0_height a0_abovesF a0_belowsF a0_widthsF a1_size a1_marksF) (fun r2 => cEq r2.1 ((-9)) (f_X4_signAt_24 a1_marksN a0_abovesF a0_belowsF a0_widthsF a1_size a1_marksF e24_53 n r2.2.1 r2.2.2.1 r2.2.2.2 (y4 + 1)) (some (r2.1, r2.2.1, r2.2.2.1, r2.2.2.2))))
set_option maxRecDepth 100000 in
theorem l_X4_signAt_24 {D : va_G} {cs : q_CS} {κ : q_X} {a0 a0_widths a0_aboves a0_belows a1 a1_marks : Nat} {a1_marksN : Nat} {a1_ci : Nat} {a1_fx : List Value} {a1_size : Int} {a0_abovesF a0_belowsF a0_widthsF a1_marksF : (Nat → Int)} {r : (Int × Int × Int × Int)} {e24_53 : Int × Int × Int × Int → Option (Int × Int × Int × Int)} (ha1 : q_mk a1_ci a1_fx) (ok : q_ok D cs κ cX4_signAt 6 RX4 (q_rm 5 114)) (fin : ∀ (lv : List (Nat × Value)) (pc : Nat), decode cX4_signAt pc = .ok (.ireturn, 1) → q_J D κ 6 0 0 [(a0, .inr (4, [.ref a0_widths, .ref a0_aboves, .ref a0_belows, .int (iI r.2.1), .int (iI r.2.2.1), .int (iI r.2.2.2)])), (a0_aboves, .inl (cs.1, 181, .inl (aI a0_abovesF))), (a0_belows, .inl (cs.1, 181, .inl (aI a0_belowsF))), (a0_widths, .inl (cs.1, 181, .inl (aI a0_widthsF))), (a1, .inr (a1_ci, .ref a1_marks :: .int (iI a1_size) :: a1_fx)), (a1_marks, .inl (cs.1, a1_marksN, .inl (aI a1_marksF)))] lv pc [.int (iI r.1)]) (he24_53 : ∀ x : Int × Int × Int × Int, e24_53 x = some r → q_J D κ 6 0 0 [(a0, .inr (4, [.ref a0_widths, .ref a0_aboves, .ref a0_belows, .int (iI x.1), .int (iI x.2.1), .int (iI x.2.2.1)])), (a0_aboves, .inl (cs.1, 181, .inl (aI a0_abovesF))), (a0_belows, .inl (cs.1, 181, .inl (aI a0_belowsF))), (a0_widths, .inl (cs.1, 181, .inl (aI a0_widthsF))), (a1, .inr (a1_ci, .ref a1_marks :: .int (iI a1_size) :: a1_fx)), (a1_marks, .inl (cs.1, a1_marksN, .inl (aI a1_marksF)))] [] 53 []) : ∀ (n : Nat) (a0_row : Int) (a0_column : Int) (a0_height : Int) (y4 : Int), f_X4_signAt_24 a1_marksN a0_abovesF a0_belowsF a0_widthsF a1_size a1_marksF e24_53 n a0_row a0_column a0_height y4 = some r → q_J D κ 6 0 0 [(a0, .inr (4, [.ref a0_widths, .ref a0_aboves, .ref a0_belows, .int (iI a0_row), .int (iI a0_column), .int (iI a0_height)])), (a0_aboves, .inl (cs.1, 181, .inl (aI a0_abovesF))), (a0_belows, .inl (cs.1, 181, .inl (aI a0_belowsF))), (a0_widths, .inl (cs.1, 181, .inl (aI a0_widthsF))), (a1, .inr (a1_ci, .ref a1_marks :: .int (iI a1_size) :: a1_fx)), (a1_marks, .inl (cs.1, a1_marksN, .inl (aI a1_marksF)))] [(0, .ref a0), (1, .ref a1), (4, .int (iI y4))] 24 [] := by
  intro n
  induction n with
  | zero =>
    intro a0_row a0_column a0_height y4 h
    exact absurd h (by unfold f_X4_signAt_24; exact fun z => by cases z)
  | succ n ih =>
    intro a0_row a0_column a0_height y4 h
    unfold f_X4_signAt_24 at h
    refine j_iload (pc := 24) 2 ok dX4_signAt_24 rfl ?_
    refine j_iconst (pc := 26) ok dX4_signAt_26 ?_
    refine j_icmp_gt (pc := 27) 53 ok dX4_signAt_27 (by decide) h (fun h => ?_) (fun h => ?_)
    · refine j_lv [] rfl ?_
      exact he24_53 (a0_row, a0_column, a0_height, y4) h
    · refine j_aload_n (pc := 30) 0 ok dX4_signAt_30 rfl rfl ?_
      refine j_aload_n (pc := 31) 1 ok dX4_signAt_31 rfl rfl ?_
      obtain ⟨r2, hr2, h⟩ := bd_inv h
      refine j_callV (pc := 32) ok (k_X4_signInRow (a0 := a0) (a0_widths := a0_widths) (a0_aboves := a0_aboves) (a0_belows := a0_belows) (a1 := a1) (a1_marks := a1_marks) (a1_ci := a1_ci) (a1_fx := a1_fx) (a1_marksN := a1_marksN) (a0_row := a0_row) (a0_column := a0_column) (a0_height := a0_height) (a0_abovesF := a0_abovesF) (a0_belowsF := a0_belowsF) (a0_widthsF := a0_widthsF) (a1_size := a1_size) (a1_marksF := a1_marksF) ha1 hr2) gV_X4_85 ⟨rfl, hd_X4_signInRow⟩ [0, 1, 2, 3, 4, 5] (by decide) rfl rfl 0 rfl rfl rfl rfl ⟨Nat.zero_le _, Nat.zero_le _⟩ (Nat.le_of_ble_eq_true rfl) dX4_signAt_32 rfl [(a0, .inr (4, [.ref a0_widths, .ref a0_aboves, .ref a0_belows, .int (iI r2.2.1), .int (iI r2.2.2.1), .int (iI r2.2.2.2)])), (a0_aboves, .inl (cs.1, 181, .inl (aI a0_abovesF))), (a0_belows, .inl (cs.1, 181, .inl (aI a0_belowsF))), (a0_widths, .inl (cs.1, 181, .inl (aI a0_widthsF))), (a1, .inr (a1_ci, .ref a1_marks :: .int (iI a1_size) :: a1_fx)), (a1_marks, .inl (cs.1, a1_marksN, .inl (aI a1_marksF)))] rfl ?_
      refine j_istore (pc := 35) (lv' := [(5, .int (iI r2.1)), (0, .ref a0), (1, .ref a1), (4, .int (iI y4))]) ok dX4_signAt_35 (by decide) rfl ?_
      refine j_iload (pc := 37) 0 ok dX4_signAt_37 rfl ?_
      refine j_bipush (pc := 39) ok dX4_signAt_39 (by decide) ?_
      refine j_icmp_eq (pc := 41) 47 ok dX4_signAt_41 (by decide) h (fun h => ?_) (fun h => ?_)
      · refine j_iinc (pc := 47) (lv' := [(4, .int (iI (y4 + 1))), (5, .int (iI r2.1)), (0, .ref a0), (1, .ref a1)]) 3 ok dX4_signAt_47 rfl (by decide) rfl ?_
        refine j_goto (pc := 50) 24 ok dX4_signAt_50 (by decide) ?_
        refine j_lv [2, 3, 0] rfl ?_
        exact ih _ _ _ _ h
      · refine j_iload (pc := 44) 0 ok dX4_signAt_44 rfl ?_
        obtain rfl := Option.some.inj h
        exact fin _ 46 dX4_signAt_46
def f_X4_signAt (a1_marksN : Nat) (a0_row : Int) (a0_column : Int) (a0_height : Int) (a0_abovesF : (Nat → Int)) (a0_belowsF : (Nat → Int)) (a0_widthsF : (Nat → Int)) (a1_size : Int) (a1_marksF : (Nat → Int)) (x2 : Int) (x3 : Int) : Option (Int × Int × Int × Int) := bd (f_X4_above a0_abovesF 0) (fun r1 => f_X4_signAt_24 a1_marksN a0_abovesF a0_belowsF a0_widthsF a1_size a1_marksF (fun (z3 : Int × Int × Int × Int) => some (32, z3.1, z3.2.1, z3.2.2.1)) fuel 0 x2 (x3 - r1) 0)
set_option maxRecDepth 100000 in
set_option maxHeartbeats 4000000 in
theorem k_X4_signAt {D : va_G} {cs : q_CS} {a0 a0_widths a0_aboves a0_belows a1 a1_marks : Nat} {a1_marksN : Nat} {a1_ci : Nat} {a1_fx : List Value} {a0_row a0_column a0_height a1_size : Int} {a0_abovesF a0_belowsF a0_widthsF a1_marksF : (Nat → Int)} {x2 x3 : Int} {r : (Int × Int × Int × Int)} (ha1 : q_mk a1_ci a1_fx) (h : f_X4_signAt a1_marksN a0_row a0_column a0_height a0_abovesF a0_belowsF a0_widthsF a1_size a1_marksF x2 x3 = some r) : q_M D cs yX4_signAt cX4_signAt 6 (some .int) 5 114 [.ref a0, .ref a1, .int (iI x2), .int (iI x3)] [(a0, .inr (4, [.ref a0_widths, .ref a0_aboves, .ref a0_belows, .int (iI a0_row), .int (iI a0_column), .int (iI a0_height)])), (a0_aboves, .inl (cs.1, 181, .inl (aI a0_abovesF))), (a0_belows, .inl (cs.1, 181, .inl (aI a0_belowsF))), (a0_widths, .inl (cs.1, 181, .inl (aI a0_widthsF))), (a1, .inr (a1_ci, .ref a1_marks :: .int (iI a1_size) :: a1_fx)), (a1_marks, .inl (cs.1, a1_marksN, .inl (aI a1_marksF)))] (some (.int (iI r.1))) [(a0, .inr (4, [.ref a0_widths, .ref a0_aboves, .ref a0_belows, .int (iI r.2.1), .int (iI r.2.2.1), .int (iI r.2.2.2)])), (a0_aboves, .inl (cs.1, 181, .inl (aI a0_abovesF))), (a0_belows, .inl (cs.1, 181, .inl (aI a0_belowsF))), (a0_widths, .inl (cs.1, 181, .inl (aI a0_widthsF))), (a1, .inr (a1_ci, .ref a1_marks :: .int (iI a1_size) :: a1_fx)), (a1_marks, .inl (cs.1, a1_marksN, .inl (aI a1_marksF)))] := by
  refine q_start_i [(0, .ref a0), (1, .ref a1), (2, .int (iI x2)), (3, .int (iI x3))] RX4 rfl (by decide +kernel) rfl (Nat.le_of_ble_eq_true rfl) rfl (fun κ ok fin => ?_)
  unfold f_X4_signAt at h
  refine j_aload_n (pc := 0) 0 ok dX4_signAt_0 rfl rfl ?_
  refine j_iconst (pc := 1) ok dX4_signAt_1 ?_
  refine pf_X4_76_4 (pc := 2) 0 ok rfl dX4_signAt_2 [(a0, .inr (4, [.ref a0_widths, .ref a0_aboves, .ref a0_belows, .int (iI 0), .int (iI a0_column), .int (iI a0_height)])), (a0_aboves, .inl (cs.1, 181, .inl (aI a0_abovesF))), (a0_belows, .inl (cs.1, 181, .inl (aI a0_belowsF))), (a0_widths, .inl (cs.1, 181, .inl (aI a0_widthsF))), (a1, .inr (a1_ci, .ref a1_marks :: .int (iI a1_size) :: a1_fx)), (a1_marks, .inl (cs.1, a1_marksN, .inl (aI a1_marksF)))] rfl ?_
  refine j_aload_n (pc := 5) 0 ok dX4_signAt_5 rfl rfl ?_
  refine j_iload_n (pc := 6) 2 ok dX4_signAt_6 rfl rfl ?_
  refine pf_X4_79_4 (pc := 7) 0 ok rfl dX4_signAt_7 [(a0, .inr (4, [.ref a0_widths, .ref a0_aboves, .ref a0_belows, .int (iI 0), .int (iI x2), .int (iI a0_height)])), (a0_aboves, .inl (cs.1, 181, .inl (aI a0_abovesF))), (a0_belows, .inl (cs.1, 181, .inl (aI a0_belowsF))), (a0_widths, .inl (cs.1, 181, .inl (aI a0_widthsF))), (a1, .inr (a1_ci, .ref a1_marks :: .int (iI a1_size) :: a1_fx)), (a1_marks, .inl (cs.1, a1_marksN, .inl (aI a1_marksF)))] rfl ?_
  refine j_aload_n (pc := 10) 0 ok dX4_signAt_10 rfl rfl ?_
  refine j_iload_n (pc := 11) 3 ok dX4_signAt_11 rfl rfl ?_
  refine j_aload_n (pc := 12) 0 ok dX4_signAt_12 rfl rfl ?_
  refine j_iconst (pc := 13) ok dX4_signAt_13 ?_
  obtain ⟨r1, hr1, h⟩ := bd_inv h
  refine j_callV (pc := 14) ok (k_X4_above (a0 := a0) (a0_widths := a0_widths) (a0_aboves := a0_aboves) (a0_belows := a0_belows) (a0_row := 0) (a0_column := x2) (a0_height := a0_height) (a0_abovesF := a0_abovesF) (x1 := 0) hr1) gV_X4_21 ⟨rfl, hd_X4_above⟩ [0, 1] (by decide) rfl rfl 0 rfl rfl rfl rfl ⟨Nat.zero_le _, Nat.zero_le _⟩ (Nat.le_of_ble_eq_true rfl) dX4_signAt_14 rfl [(a0, .inr (4, [.ref a0_widths, .ref a0_aboves, .ref a0_belows, .int (iI 0), .int (iI x2), .int (iI a0_height)])), (a0_aboves, .inl (cs.1, 181, .inl (aI a0_abovesF))), (a0_belows, .inl (cs.1, 181, .inl (aI a0_belowsF))), (a0_widths, .inl (cs.1, 181, .inl (aI a0_widthsF))), (a1, .inr (a1_ci, .ref a1_marks :: .int (iI a1_size) :: a1_fx)), (a1_marks, .inl (cs.1, a1_marksN, .inl (aI a1_marksF)))] rfl ?_
  refine j_isub (pc := 17) ok dX4_signAt_17 ?_
  refine pf_X4_82_4 (pc := 18) 0 ok rfl dX4_signAt_18 [(a0, .inr (4, [.ref a0_widths, .ref a0_aboves, .ref a0_belows, .int (iI 0), .int (iI x2), .int (iI (x3 - r1))])), (a0_aboves, .inl (cs.1, 181, .inl (aI a0_abovesF))), (a0_belows, .inl (cs.1, 181, .inl (aI a0_belowsF))), (a0_widths, .inl (cs.1, 181, .inl (aI a0_widthsF))), (a1, .inr (a1_ci, .ref a1_marks :: .int (iI a1_size) :: a1_fx)), (a1_marks, .inl (cs.1, a1_marksN, .inl (aI a1_marksF)))] rfl ?_
  refine j_iconst (pc := 21) ok dX4_signAt_21 ?_
  refine j_istore (pc := 22) (lv' := [(4, .int (iI 0)), (0, .ref a0), (1, .ref a1), (2, .int (iI x2)), (3, .int (iI x3))]) ok dX4_signAt_22 (by decide) rfl ?_
  refine j_lv [1, 2, 0] rfl ?_
  refine l_X4_signAt_24 ha1 ok fin (fun z3 h => ?_) fuel _ _ _ _ h
  · refine j_bipush (pc := 53) ok dX4_signAt_53 (by decide) ?_
    obtain rfl := Option.some.inj h
    exact fin _ 55 dX4_signAt_55
def f_X5_hasRoom (a0_length : Int) : Option (Int) := jn (fun (z2 : Int) => gB z2 (some z2)) (fun k1 => cLt a0_length 120 (k1 1) (k1 0))
set_option maxRecDepth 100000 in
set_option maxHeartbeats 4000000 in
theorem k_X5_hasRoom {D : va_G} {cs : q_CS} {a0 a0_signs a0_result a0_stack : Nat} {a0_length a0_top a0_state a0_bracket a0_chain a0_factor a0_isUnder a0_isPlain a0_script a0_isBound : Int} {a0_signsF : (Nat → Int)} {r : (Int)} (h : f_X5_hasRoom a0_length = some r) : q_M D cs yX5_hasRoom cX5_hasRoom 1 (some .boolean) 0 0 [.ref a0] [(a0, .inr (5, [.ref a0_signs, .int (iI a0_length), .ref a0_result, .ref a0_stack, .int (iI a0_top), .int (iI a0_state), .int (iI a0_bracket), .int (iI a0_chain), .int (iI a0_factor), .int (iI a0_isUnder), .int (iI a0_isPlain), .int (iI a0_script), .int (iI a0_isBound)])), (a0_signs, .inl (cs.1, 120, .inl (aI a0_signsF)))] (some (.int (iI r))) [(a0, .inr (5, [.ref a0_signs, .int (iI a0_length), .ref a0_result, .ref a0_stack, .int (iI a0_top), .int (iI a0_state), .int (iI a0_bracket), .int (iI a0_chain), .int (iI a0_factor), .int (iI a0_isUnder), .int (iI a0_isPlain), .int (iI a0_script), .int (iI a0_isBound)])), (a0_signs, .inl (cs.1, 120, .inl (aI a0_signsF)))] := by
  refine q_start_z [(0, .ref a0)] RX5 rfl (by decide +kernel) rfl (Nat.le_of_ble_eq_true rfl) (fun κ ok fin => ?_)
  unfold f_X5_hasRoom at h
  refine j_aload_n (pc := 0) 0 ok dX5_hasRoom_0 rfl rfl ?_
  refine gf_X5_27_5 (pc := 1) 0 ok rfl dX5_hasRoom_1 ?_
  refine j_aload_n (pc := 4) 0 ok dX5_hasRoom_4 rfl rfl ?_
  refine gf_X5_9_5 (pc := 5) 0 ok rfl dX5_hasRoom_5 ?_
  refine j_alen (pc := 8) 1 0 ok rfl rfl dX5_hasRoom_8 ?_
  refine jn_use (P := fun z2 => q_J D κ 1 0 0 [(a0, .inr (5, [.ref a0_signs, .int (iI a0_length), .ref a0_result, .ref a0_stack, .int (iI a0_top), .int (iI a0_state), .int (iI a0_bracket), .int (iI a0_chain), .int (iI a0_factor), .int (iI a0_isUnder), .int (iI a0_isPlain), .int (iI a0_script), .int (iI a0_isBound)])), (a0_signs, .inl (cs.1, 120, .inl (aI a0_signsF)))] [] 17 [.int (iI z2)]) h (fun z2 h => ?_) (fun k1 hk1 h => ?_)
  · obtain ⟨hbo, h⟩ := gB_inv h
    obtain rfl := Option.some.inj h
    exact fin _ 17 hbo dX5_hasRoom_17
  · refine j_icmp_ge (pc := 9) 16 ok dX5_hasRoom_9 (by decide) h (fun h => ?_) (fun h => ?_)
    · refine j_iconst (pc := 16) ok dX5_hasRoom_16 ?_
      refine j_lv [] rfl ?_
      exact hk1 0 h
    · refine j_iconst (pc := 12) ok dX5_hasRoom_12 ?_
      refine j_goto (pc := 13) 17 ok dX5_hasRoom_13 (by decide) ?_
      refine j_lv [] rfl ?_
      exact hk1 1 h
def f_X5_addSign (a0_length : Int) (a0_signsF : (Nat → Int)) (x1 : Int) : Option (Int × (Nat → Int)) := jn (fun (z2 : Int × (Nat → Int)) => some (z2.1, z2.2)) (fun k1 => cLt a0_length 0 (k1 (a0_length, a0_signsF)) (cLt a0_length 120 (gIn a0_length 120 (k1 (a0_length + 1, va_up a0_signsF a0_length.toNat x1))) (k1 (a0_length, a0_signsF))))
set_option maxRecDepth 100000 in
set_option maxHeartbeats 4000000 in
theorem k_X5_addSign {D : va_G} {cs : q_CS} {a0 a0_signs a0_result a0_stack : Nat} {a0_length a0_top a0_state a0_bracket a0_chain a0_factor a0_isUnder a0_isPlain a0_script a0_isBound : Int} {a0_signsF : (Nat → Int)} {x1 : Int} {r : (Int × (Nat → Int))} (h : f_X5_addSign a0_length a0_signsF x1 = some r) : q_M D cs yX5_addSign cX5_addSign 2 none 0 0 [.ref a0, .int (iI x1)] [(a0, .inr (5, [.ref a0_signs, .int (iI a0_length), .ref a0_result, .ref a0_stack, .int (iI a0_top), .int (iI a0_state), .int (iI a0_bracket), .int (iI a0_chain), .int (iI a0_factor), .int (iI a0_isUnder), .int (iI a0_isPlain), .int (iI a0_script), .int (iI a0_isBound)])), (a0_signs, .inl (cs.1, 120, .inl (aI a0_signsF)))] none [(a0, .inr (5, [.ref a0_signs, .int (iI r.1), .ref a0_result, .ref a0_stack, .int (iI a0_top), .int (iI a0_state), .int (iI a0_bracket), .int (iI a0_chain), .int (iI a0_factor), .int (iI a0_isUnder), .int (iI a0_isPlain), .int (iI a0_script), .int (iI a0_isBound)])), (a0_signs, .inl (cs.1, 120, .inl (aI r.2)))] := by
  refine q_start_v [(0, .ref a0), (1, .int (iI x1))] RX5 rfl (by decide +kernel) rfl (Nat.le_of_ble_eq_true rfl) (fun κ ok fin => ?_)
  unfold f_X5_addSign at h
  refine j_aload_n (pc := 0) 0 ok dX5_addSign_0 rfl rfl ?_
  refine gf_X5_27_5 (pc := 1) 0 ok rfl dX5_addSign_1 ?_
  refine jn_use (P := fun z2 => q_J D κ 2 0 0 [(a0, .inr (5, [.ref a0_signs, .int (iI z2.1), .ref a0_result, .ref a0_stack, .int (iI a0_top), .int (iI a0_state), .int (iI a0_bracket), .int (iI a0_chain), .int (iI a0_factor), .int (iI a0_isUnder), .int (iI a0_isPlain), .int (iI a0_script), .int (iI a0_isBound)])), (a0_signs, .inl (cs.1, 120, .inl (aI z2.2)))] [] 39 []) h (fun z2 h => ?_) (fun k1 hk1 h => ?_)
  · obtain rfl := Option.some.inj h
    exact fin _ 39 dX5_addSign_39
  · refine j_if_lt (pc := 4) 39 ok dX5_addSign_4 (by decide) h (fun h => ?_) (fun h => ?_)
    · refine j_lv [] rfl ?_
      exact hk1 (a0_length, a0_signsF) h
    · refine j_aload_n (pc := 7) 0 ok dX5_addSign_7 rfl rfl ?_
      refine gf_X5_27_5 (pc := 8) 0 ok rfl dX5_addSign_8 ?_
      refine j_aload_n (pc := 11) 0 ok dX5_addSign_11 rfl rfl ?_
      refine gf_X5_9_5 (pc := 12) 0 ok rfl dX5_addSign_12 ?_
      refine j_alen (pc := 15) 1 0 ok rfl rfl dX5_addSign_15 ?_
      refine j_icmp_ge (pc := 16) 39 ok dX5_addSign_16 (by decide) h (fun h => ?_) (fun h => ?_)
      · refine j_lv [] rfl ?_
        exact hk1 (a0_length, a0_signsF) h
      · refine j_aload_n (pc := 19) 0 ok dX5_addSign_19 rfl rfl ?_
        refine gf_X5_9_5 (pc := 20) 0 ok rfl dX5_addSign_20 ?_
        refine j_aload_n (pc := 23) 0 ok dX5_addSign_23 rfl rfl ?_
        refine gf_X5_27_5 (pc := 24) 0 ok rfl dX5_addSign_24 ?_
        refine j_iload_n (pc := 27) 1 ok dX5_addSign_27 rfl rfl ?_
        refine j_iastw (pc := 28) 1 ok rfl dX5_addSign_28 h [(a0, .inr (5, [.ref a0_signs, .int (iI a0_length), .ref a0_result, .ref a0_stack, .int (iI a0_top), .int (iI a0_state), .int (iI a0_bracket), .int (iI a0_chain), .int (iI a0_factor), .int (iI a0_isUnder), .int (iI a0_isPlain), .int (iI a0_script), .int (iI a0_isBound)])), (a0_signs, .inl (cs.1, 120, .inl (aI (va_up a0_signsF a0_length.toNat x1))))] rfl (fun h => ?_)
        refine j_aload_n (pc := 29) 0 ok dX5_addSign_29 rfl rfl ?_
        refine j_dup (pc := 30) ok dX5_addSign_30 rfl ?_
        refine gf_X5_27_5 (pc := 31) 0 ok rfl dX5_addSign_31 ?_
        refine j_iconst (pc := 34) ok dX5_addSign_34 ?_
        refine j_iadd (pc := 35) ok dX5_addSign_35 ?_
        refine pf_X5_27_5 (pc := 36) 0 ok rfl dX5_addSign_36 [(a0, .inr (5, [.ref a0_signs, .int (iI (a0_length + 1)), .ref a0_result, .ref a0_stack, .int (iI a0_top), .int (iI a0_state), .int (iI a0_bracket), .int (iI a0_chain), .int (iI a0_factor), .int (iI a0_isUnder), .int (iI a0_isPlain), .int (iI a0_script), .int (iI a0_isBound)])), (a0_signs, .inl (cs.1, 120, .inl (aI (va_up a0_signsF a0_length.toNat x1))))] rfl ?_
        refine j_lv [] rfl ?_
        exact hk1 (a0_length + 1, va_up a0_signsF a0_length.toNat x1) h
def f_X5_beginText (a0_state : Int) (a0_chain : Int) (a0_factor : Int) (a0_isUnder : Int) (a0_isPlain : Int) (a0_script : Int) (a0_isBound : Int) (a0_result_size : Int) : Option (Int × Int × Int × Int × Int × Int × Int) := gB 0 (gB 0 (gB 0 (some (0, a0_result_size, a0_result_size, 0, 0, 0, 0))))
set_option maxRecDepth 100000 in
set_option maxHeartbeats 4000000 in
theorem k_X5_beginText {D : va_G} {cs : q_CS} {a0 a0_signs a0_result a0_stack a0_result_marks : Nat} {a0_length a0_top a0_state a0_bracket a0_chain a0_factor a0_isUnder a0_isPlain a0_script a0_isBound a0_result_size : Int} {r : (Int × Int × Int × Int × Int × Int × Int)} (h : f_X5_beginText a0_state a0_chain a0_factor a0_isUnder a0_isPlain a0_script a0_isBound a0_result_size = some r) : q_M D cs yX5_beginText cX5_beginText 1 none 0 0 [.ref a0] [(a0, .inr (5, [.ref a0_signs, .int (iI a0_length), .ref a0_result, .ref a0_stack, .int (iI a0_top), .int (iI a0_state), .int (iI a0_bracket), .int (iI a0_chain), .int (iI a0_factor), .int (iI a0_isUnder), .int (iI a0_isPlain), .int (iI a0_script), .int (iI a0_isBound)])), (a0_result, .inr (3, [.ref a0_result_marks, .int (iI a0_result_size)]))] none [(a0, .inr (5, [.ref a0_signs, .int (iI a0_length), .ref a0_result, .ref a0_stack, .int (iI a0_top), .int (iI r.1), .int (iI a0_bracket), .int (iI r.2.1), .int (iI r.2.2.1), .int (iI r.2.2.2.1), .int (iI r.2.2.2.2.1), .int (iI r.2.2.2.2.2.1), .int (iI r.2.2.2.2.2.2)])), (a0_result, .inr (3, [.ref a0_result_marks, .int (iI a0_result_size)]))] := by
  refine q_start_v [(0, .ref a0)] RX5 rfl (by decide +kernel) rfl (Nat.le_of_ble_eq_true rfl) (fun κ ok fin => ?_)
  unfold f_X5_beginText at h
  refine j_aload_n (pc := 0) 0 ok dX5_beginText_0 rfl rfl ?_
  refine j_iconst (pc := 1) ok dX5_beginText_1 ?_
  refine pf_X5_41_5 (pc := 2) 0 ok rfl dX5_beginText_2 [(a0, .inr (5, [.ref a0_signs, .int (iI a0_length), .ref a0_result, .ref a0_stack, .int (iI a0_top), .int (iI 0), .int (iI a0_bracket), .int (iI a0_chain), .int (iI a0_factor), .int (iI a0_isUnder), .int (iI a0_isPlain), .int (iI a0_script), .int (iI a0_isBound)])), (a0_result, .inr (3, [.ref a0_result_marks, .int (iI a0_result_size)]))] rfl ?_
  refine j_aload_n (pc := 5) 0 ok dX5_beginText_5 rfl rfl ?_
  refine j_aload_n (pc := 6) 0 ok dX5_beginText_6 rfl rfl ?_
  refine gf_X5_20_5 (pc := 7) 0 ok rfl dX5_beginText_7 ?_
  refine gf_X5_47_3 (pc := 10) 1 ok rfl dX5_beginText_10 ?_
  refine pf_X5_56_5 (pc := 13) 0 ok rfl dX5_beginText_13 [(a0, .inr (5, [.ref a0_signs, .int (iI a0_length), .ref a0_result, .ref a0_stack, .int (iI a0_top), .int (iI 0), .int (iI a0_bracket), .int (iI a0_result_size), .int (iI a0_factor), .int (iI a0_isUnder), .int (iI a0_isPlain), .int (iI a0_script), .int (iI a0_isBound)])), (a0_result, .inr (3, [.ref a0_result_marks, .int (iI a0_result_size)]))] rfl ?_
  refine j_aload_n (pc := 16) 0 ok dX5_beginText_16 rfl rfl ?_
  refine j_aload_n (pc := 17) 0 ok dX5_beginText_17 rfl rfl ?_
  refine gf_X5_20_5 (pc := 18) 0 ok rfl dX5_beginText_18 ?_
  refine gf_X5_47_3 (pc := 21) 1 ok rfl dX5_beginText_21 ?_
  refine pf_X5_59_5 (pc := 24) 0 ok rfl dX5_beginText_24 [(a0, .inr (5, [.ref a0_signs, .int (iI a0_length), .ref a0_result, .ref a0_stack, .int (iI a0_top), .int (iI 0), .int (iI a0_bracket), .int (iI a0_result_size), .int (iI a0_result_size), .int (iI a0_isUnder), .int (iI a0_isPlain), .int (iI a0_script), .int (iI a0_isBound)])), (a0_result, .inr (3, [.ref a0_result_marks, .int (iI a0_result_size)]))] rfl ?_
  refine j_aload_n (pc := 27) 0 ok dX5_beginText_27 rfl rfl ?_
  refine j_iconst (pc := 28) ok dX5_beginText_28 ?_
  refine pf_X5_62_5 (pc := 29) 0 ok rfl dX5_beginText_29 h [(a0, .inr (5, [.ref a0_signs, .int (iI a0_length), .ref a0_result, .ref a0_stack, .int (iI a0_top), .int (iI 0), .int (iI a0_bracket), .int (iI a0_result_size), .int (iI a0_result_size), .int (iI 0), .int (iI a0_isPlain), .int (iI a0_script), .int (iI a0_isBound)])), (a0_result, .inr (3, [.ref a0_result_marks, .int (iI a0_result_size)]))] rfl (fun h => ?_)
  refine j_aload_n (pc := 32) 0 ok dX5_beginText_32 rfl rfl ?_
  refine j_iconst (pc := 33) ok dX5_beginText_33 ?_
  refine pf_X5_66_5 (pc := 34) 0 ok rfl dX5_beginText_34 h [(a0, .inr (5, [.ref a0_signs, .int (iI a0_length), .ref a0_result, .ref a0_stack, .int (iI a0_top), .int (iI 0), .int (iI a0_bracket), .int (iI a0_result_size), .int (iI a0_result_size), .int (iI 0), .int (iI 0), .int (iI a0_script), .int (iI a0_isBound)])), (a0_result, .inr (3, [.ref a0_result_marks, .int (iI a0_result_size)]))] rfl (fun h => ?_)
  refine j_aload_n (pc := 37) 0 ok dX5_beginText_37 rfl rfl ?_
  refine j_iconst (pc := 38) ok dX5_beginText_38 ?_
  refine pf_X5_69_5 (pc := 39) 0 ok rfl dX5_beginText_39 [(a0, .inr (5, [.ref a0_signs, .int (iI a0_length), .ref a0_result, .ref a0_stack, .int (iI a0_top), .int (iI 0), .int (iI a0_bracket), .int (iI a0_result_size), .int (iI a0_result_size), .int (iI 0), .int (iI 0), .int (iI 0), .int (iI a0_isBound)])), (a0_result, .inr (3, [.ref a0_result_marks, .int (iI a0_result_size)]))] rfl ?_
  refine j_aload_n (pc := 42) 0 ok dX5_beginText_42 rfl rfl ?_
  refine j_iconst (pc := 43) ok dX5_beginText_43 ?_
  refine pf_X5_72_5 (pc := 44) 0 ok rfl dX5_beginText_44 h [(a0, .inr (5, [.ref a0_signs, .int (iI a0_length), .ref a0_result, .ref a0_stack, .int (iI a0_top), .int (iI 0), .int (iI a0_bracket), .int (iI a0_result_size), .int (iI a0_result_size), .int (iI 0), .int (iI 0), .int (iI 0), .int (iI 0)])), (a0_result, .inr (3, [.ref a0_result_marks, .int (iI a0_result_size)]))] rfl (fun h => ?_)
  obtain rfl := Option.some.inj h
  exact fin _ 47 dX5_beginText_47
def f_X5_begin (a0_top : Int) (a0_state : Int) (a0_bracket : Int) (a0_chain : Int) (a0_factor : Int) (a0_isUnder : Int) (a0_isPlain : Int) (a0_script : Int) (a0_isBound : Int) (a0_result_size : Int) : Option (Int × Int × Int × Int × Int × Int × Int × Int × Int × Int) := bd (f_X5_beginText a0_state a0_chain a0_factor a0_isUnder a0_isPlain a0_script a0_isBound 0) (fun r1 => some (0, r1.1, 0, r1.2.1, r1.2.2.1, r1.2.2.2.1, r1.2.2.2.2.1, r1.2.2.2.2.2.1, r1.2.2.2.2.2.2, 0))
set_option maxRecDepth 100000 in
set_option maxHeartbeats 4000000 in
theorem k_X5_begin {D : va_G} {cs : q_CS} {a0 a0_signs a0_result a0_stack a0_result_marks : Nat} {a0_length a0_top a0_state a0_bracket a0_chain a0_factor a0_isUnder a0_isPlain a0_script a0_isBound a0_result_size : Int} {r : (Int × Int × Int × Int × Int × Int × Int × Int × Int × Int)} (h : f_X5_begin a0_top a0_state a0_bracket a0_chain a0_factor a0_isUnder a0_isPlain a0_script a0_isBound a0_result_size = some r) : q_M D cs yX5_begin cX5_begin 1 none 1 20 [.ref a0] [(a0, .inr (5, [.ref a0_signs, .int (iI a0_length), .ref a0_result, .ref a0_stack, .int (iI a0_top), .int (iI a0_state), .int (iI a0_bracket), .int (iI a0_chain), .int (iI a0_factor), .int (iI a0_isUnder), .int (iI a0_isPlain), .int (iI a0_script), .int (iI a0_isBound)])), (a0_result, .inr (3, [.ref a0_result_marks, .int (iI a0_result_size)]))] none [(a0, .inr (5, [.ref a0_signs, .int (iI a0_length), .ref a0_result, .ref a0_stack, .int (iI r.1), .int (iI r.2.1), .int (iI r.2.2.1), .int (iI r.2.2.2.1), .int (iI r.2.2.2.2.1), .int (iI r.2.2.2.2.2.1), .int (iI r.2.2.2.2.2.2.1), .int (iI r.2.2.2.2.2.2.2.1), .int (iI r.2.2.2.2.2.2.2.2.1)])), (a0_result, .inr (3, [.ref a0_result_marks, .int (iI r.2.2.2.2.2.2.2.2.2)]))] := by
  refine q_start_v [(0, .ref a0)] RX5 rfl (by decide +kernel) rfl (Nat.le_of_ble_eq_true rfl) (fun κ ok fin => ?_)
  unfold f_X5_begin at h
  refine j_aload_n (pc := 0) 0 ok dX5_begin_0 rfl rfl ?_
  refine gf_X5_20_5 (pc := 1) 0 ok rfl dX5_begin_1 ?_
  refine j_iconst (pc := 4) ok dX5_begin_4 ?_
  refine pf_X5_47_3 (pc := 5) 1 ok rfl dX5_begin_5 [(a0, .inr (5, [.ref a0_signs, .int (iI a0_length), .ref a0_result, .ref a0_stack, .int (iI a0_top), .int (iI a0_state), .int (iI a0_bracket), .int (iI a0_chain), .int (iI a0_factor), .int (iI a0_isUnder), .int (iI a0_isPlain), .int (iI a0_script), .int (iI a0_isBound)])), (a0_result, .inr (3, [.ref a0_result_marks, .int (iI 0)]))] rfl ?_
  refine j_aload_n (pc := 8) 0 ok dX5_begin_8 rfl rfl ?_
  refine j_iconst (pc := 9) ok dX5_begin_9 ?_
  refine pf_X5_50_5 (pc := 10) 0 ok rfl dX5_begin_10 [(a0, .inr (5, [.ref a0_signs, .int (iI a0_length), .ref a0_result, .ref a0_stack, .int (iI 0), .int (iI a0_state), .int (iI a0_bracket), .int (iI a0_chain), .int (iI a0_factor), .int (iI a0_isUnder), .int (iI a0_isPlain), .int (iI a0_script), .int (iI a0_isBound)])), (a0_result, .inr (3, [.ref a0_result_marks, .int (iI 0)]))] rfl ?_
  refine j_aload_n (pc := 13) 0 ok dX5_begin_13 rfl rfl ?_
  refine j_iconst (pc := 14) ok dX5_begin_14 ?_
  refine pf_X5_38_5 (pc := 15) 0 ok rfl dX5_begin_15 [(a0, .inr (5, [.ref a0_signs, .int (iI a0_length), .ref a0_result, .ref a0_stack, .int (iI 0), .int (iI a0_state), .int (iI 0), .int (iI a0_chain), .int (iI a0_factor), .int (iI a0_isUnder), .int (iI a0_isPlain), .int (iI a0_script), .int (iI a0_isBound)])), (a0_result, .inr (3, [.ref a0_result_marks, .int (iI 0)]))] rfl ?_
  refine j_aload_n (pc := 18) 0 ok dX5_begin_18 rfl rfl ?_
  obtain ⟨r1, hr1, h⟩ := bd_inv h
  refine j_callV (pc := 19) ok (k_X5_beginText (a0 := a0) (a0_signs := a0_signs) (a0_result := a0_result) (a0_stack := a0_stack) (a0_result_marks := a0_result_marks) (a0_length := a0_length) (a0_top := 0) (a0_state := a0_state) (a0_bracket := 0) (a0_chain := a0_chain) (a0_factor := a0_factor) (a0_isUnder := a0_isUnder) (a0_isPlain := a0_isPlain) (a0_script := a0_script) (a0_isBound := a0_isBound) (a0_result_size := 0) hr1) gV_X5_53 ⟨rfl, hd_X5_beginText⟩ [0, 1] (by decide) rfl rfl 0 rfl rfl rfl rfl ⟨Nat.zero_le _, Nat.zero_le _⟩ (Nat.le_of_ble_eq_true rfl) dX5_begin_19 rfl [(a0, .inr (5, [.ref a0_signs, .int (iI a0_length), .ref a0_result, .ref a0_stack, .int (iI 0), .int (iI r1.1), .int (iI 0), .int (iI r1.2.1), .int (iI r1.2.2.1), .int (iI r1.2.2.2.1), .int (iI r1.2.2.2.2.1), .int (iI r1.2.2.2.2.2.1), .int (iI r1.2.2.2.2.2.2)])), (a0_result, .inr (3, [.ref a0_result_marks, .int (iI 0)]))] rfl ?_
  obtain rfl := Option.some.inj h
  exact fin _ 22 dX5_begin_22
def f_X7_isLetter (x0 : Int) : Option (Int) := jn (fun (z4 : Int) => gB z4 (some z4)) (fun k2 => jn (fun (z3 : Unit) => k2 0) (fun k1 => cLt x0 97 (k1 ()) (cLt 122 x0 (k1 ()) (cEq x0 114 (k1 ()) (k2 1)))))
set_option maxRecDepth 100000 in
set_option maxHeartbeats 4000000 in
theorem k_X7_isLetter {D : va_G} {cs : q_CS} {x0 : Int} {r : (Int)} (h : f_X7_isLetter x0 = some r) : q_M D cs yX7_isLetter cX7_isLetter 1 (some .boolean) 0 0 [.int (iI x0)] [] (some (.int (iI r))) [] := by
  refine q_start_z [(0, .int (iI x0))] RX7 rfl (by decide +kernel) rfl (Nat.le_of_ble_eq_true rfl) (fun κ ok fin => ?_)
  unfold f_X7_isLetter at h
  refine j_iload_n (pc := 0) 0 ok dX7_isLetter_0 rfl rfl ?_
  refine j_bipush (pc := 1) ok dX7_isLetter_1 (by decide) ?_
  refine jn_use (P := fun z4 => q_J D κ 1 0 0 [] [] 23 [.int (iI z4)]) h (fun z4 h => ?_) (fun k2 hk2 h => ?_)
  · obtain ⟨hbo, h⟩ := gB_inv h
    obtain rfl := Option.some.inj h
    exact fin _ 23 hbo dX7_isLetter_23
  · refine jn_use (P := fun z3 => q_J D κ 1 0 0 [] [] 22 []) h (fun z3 h => ?_) (fun k1 hk1 h => ?_)
    · refine j_iconst (pc := 22) ok dX7_isLetter_22 ?_
      exact hk2 0 h
    · refine j_icmp_lt (pc := 3) 22 ok dX7_isLetter_3 (by decide) h (fun h => ?_) (fun h => ?_)
      · refine j_lv [] rfl ?_
        exact hk1 () h
      · refine j_iload_n (pc := 6) 0 ok dX7_isLetter_6 rfl rfl ?_
        refine j_bipush (pc := 7) ok dX7_isLetter_7 (by decide) ?_
        refine j_icmp_gt (pc := 9) 22 ok dX7_isLetter_9 (by decide) h (fun h => ?_) (fun h => ?_)
        · refine j_lv [] rfl ?_
          exact hk1 () h
        · refine j_iload_n (pc := 12) 0 ok dX7_isLetter_12 rfl rfl ?_
          refine j_bipush (pc := 13) ok dX7_isLetter_13 (by decide) ?_
          refine j_icmp_eq (pc := 15) 22 ok dX7_isLetter_15 (by decide) h (fun h => ?_) (fun h => ?_)
          · refine j_lv [] rfl ?_
            exact hk1 () h
          · refine j_iconst (pc := 18) ok dX7_isLetter_18 ?_
            refine j_goto (pc := 19) 23 ok dX7_isLetter_19 (by decide) ?_
            refine j_lv [] rfl ?_
            exact hk2 1 h
def f_X7_isDigit (x0 : Int) : Option (Int) := jn (fun (z4 : Int) => gB z4 (some z4)) (fun k2 => jn (fun (z3 : Unit) => k2 0) (fun k1 => cLt x0 48 (k1 ()) (cLt 57 x0 (k1 ()) (k2 1))))
set_option maxRecDepth 100000 in
set_option maxHeartbeats 4000000 in
theorem k_X7_isDigit {D : va_G} {cs : q_CS} {x0 : Int} {r : (Int)} (h : f_X7_isDigit x0 = some r) : q_M D cs yX7_isDigit cX7_isDigit 1 (some .boolean) 0 0 [.int (iI x0)] [] (some (.int (iI r))) [] := by
  refine q_start_z [(0, .int (iI x0))] RX7 rfl (by decide +kernel) rfl (Nat.le_of_ble_eq_true rfl) (fun κ ok fin => ?_)
  unfold f_X7_isDigit at h
  refine j_iload_n (pc := 0) 0 ok dX7_isDigit_0 rfl rfl ?_
  refine j_bipush (pc := 1) ok dX7_isDigit_1 (by decide) ?_
  refine jn_use (P := fun z4 => q_J D κ 1 0 0 [] [] 17 [.int (iI z4)]) h (fun z4 h => ?_) (fun k2 hk2 h => ?_)
  · obtain ⟨hbo, h⟩ := gB_inv h
    obtain rfl := Option.some.inj h
    exact fin _ 17 hbo dX7_isDigit_17
  · refine jn_use (P := fun z3 => q_J D κ 1 0 0 [] [] 16 []) h (fun z3 h => ?_) (fun k1 hk1 h => ?_)
    · refine j_iconst (pc := 16) ok dX7_isDigit_16 ?_
      exact hk2 0 h
    · refine j_icmp_lt (pc := 3) 16 ok dX7_isDigit_3 (by decide) h (fun h => ?_) (fun h => ?_)
      · refine j_lv [] rfl ?_
        exact hk1 () h
      · refine j_iload_n (pc := 6) 0 ok dX7_isDigit_6 rfl rfl ?_
        refine j_bipush (pc := 7) ok dX7_isDigit_7 (by decide) ?_
        refine j_icmp_gt (pc := 9) 16 ok dX7_isDigit_9 (by decide) h (fun h => ?_) (fun h => ?_)
        · refine j_lv [] rfl ?_
          exact hk1 () h
        · refine j_iconst (pc := 12) ok dX7_isDigit_12 ?_
          refine j_goto (pc := 13) 17 ok dX7_isDigit_13 (by decide) ?_
          refine j_lv [] rfl ?_
          exact hk2 1 h
def f_X5_endBase (a0_state : Int) (a0_isPlain : Int) (a0_script : Int) (a0_isBound : Int) (a0_result_size : Int) (a0_result_marksF : (Nat → Int)) (x1 : Int) : Option (Int × Int × Int × Int × (Nat → Int)) := cEq a0_script 0 (gB x1 (some (1, x1, a0_script, a0_result_size, a0_result_marksF))) (gB 0 (bd (f_X3_add 360 a0_result_size a0_result_marksF (10 + a0_script)) (fun r1 => jn (fun (z3 : Int) => some (z3, 0, 0, r1.1, r1.2)) (fun k2 => cEq a0_isBound 0 (k2 0) (k2 1)))))
set_option maxRecDepth 100000 in
set_option maxHeartbeats 4000000 in
theorem k_X5_endBase {D : va_G} {cs : q_CS} {a0 a0_signs a0_result a0_stack a0_result_marks : Nat} {a0_length a0_top a0_state a0_bracket a0_chain a0_factor a0_isUnder a0_isPlain a0_script a0_isBound a0_result_size : Int} {a0_result_marksF : (Nat → Int)} {x1 : Int} {r : (Int × Int × Int × Int × (Nat → Int))} (h : f_X5_endBase a0_state a0_isPlain a0_script a0_isBound a0_result_size a0_result_marksF x1 = some r) : q_M D cs yX5_endBase cX5_endBase 2 none 1 21 [.ref a0, .int (iI x1)] [(a0, .inr (5, [.ref a0_signs, .int (iI a0_length), .ref a0_result, .ref a0_stack, .int (iI a0_top), .int (iI a0_state), .int (iI a0_bracket), .int (iI a0_chain), .int (iI a0_factor), .int (iI a0_isUnder), .int (iI a0_isPlain), .int (iI a0_script), .int (iI a0_isBound)])), (a0_result, .inr (3, [.ref a0_result_marks, .int (iI a0_result_size)])), (a0_result_marks, .inl (cs.1, 360, .inl (aI a0_result_marksF)))] none [(a0, .inr (5, [.ref a0_signs, .int (iI a0_length), .ref a0_result, .ref a0_stack, .int (iI a0_top), .int (iI r.1), .int (iI a0_bracket), .int (iI a0_chain), .int (iI a0_factor), .int (iI a0_isUnder), .int (iI r.2.1), .int (iI r.2.2.1), .int (iI a0_isBound)])), (a0_result, .inr (3, [.ref a0_result_marks, .int (iI r.2.2.2.1)])), (a0_result_marks, .inl (cs.1, 360, .inl (aI r.2.2.2.2)))] := by
  refine q_start_v [(0, .ref a0), (1, .int (iI x1))] RX5 rfl (by decide +kernel) rfl (Nat.le_of_ble_eq_true rfl) (fun κ ok fin => ?_)
  unfold f_X5_endBase at h
  refine j_aload_n (pc := 0) 0 ok dX5_endBase_0 rfl rfl ?_
  refine gf_X5_69_5 (pc := 1) 0 ok rfl dX5_endBase_1 ?_
  refine j_if_ne (pc := 4) 18 ok dX5_endBase_4 (by decide) h (fun h => ?_) (fun h => ?_)
  · refine j_aload_n (pc := 18) 0 ok dX5_endBase_18 rfl rfl ?_
    refine j_iconst (pc := 19) ok dX5_endBase_19 ?_
    refine pf_X5_66_5 (pc := 20) 0 ok rfl dX5_endBase_20 h [(a0, .inr (5, [.ref a0_signs, .int (iI a0_length), .ref a0_result, .ref a0_stack, .int (iI a0_top), .int (iI a0_state), .int (iI a0_bracket), .int (iI a0_chain), .int (iI a0_factor), .int (iI a0_isUnder), .int (iI 0), .int (iI a0_script), .int (iI a0_isBound)])), (a0_result, .inr (3, [.ref a0_result_marks, .int (iI a0_result_size)])), (a0_result_marks, .inl (cs.1, 360, .inl (aI a0_result_marksF)))] rfl (fun h => ?_)
    refine j_aload_n (pc := 23) 0 ok dX5_endBase_23 rfl rfl ?_
    refine gf_X5_20_5 (pc := 24) 0 ok rfl dX5_endBase_24 ?_
    refine j_bipush (pc := 27) ok dX5_endBase_27 (by decide) ?_
    refine j_aload_n (pc := 29) 0 ok dX5_endBase_29 rfl rfl ?_
    refine gf_X5_69_5 (pc := 30) 0 ok rfl dX5_endBase_30 ?_
    refine j_iadd (pc := 33) ok dX5_endBase_33 ?_
    obtain ⟨r1, hr1, h⟩ := bd_inv h
    refine j_callV (pc := 34) ok (k_X3_add (a0 := a0_result) (a0_marks := a0_result_marks) (a0_ci := 3) (a0_fx := []) (a0_marksN := 360) (a0_size := a0_result_size) (a0_marksF := a0_result_marksF) (x1 := 10 + a0_script) q_mk3 hr1) gV_X5_94 ⟨rfl, hd_X3_add⟩ [1, 2] (by decide) rfl rfl 1 rfl rfl rfl rfl ⟨Nat.zero_le _, Nat.zero_le _⟩ (Nat.le_of_ble_eq_true rfl) dX5_endBase_34 rfl [(a0, .inr (5, [.ref a0_signs, .int (iI a0_length), .ref a0_result, .ref a0_stack, .int (iI a0_top), .int (iI a0_state), .int (iI a0_bracket), .int (iI a0_chain), .int (iI a0_factor), .int (iI a0_isUnder), .int (iI 0), .int (iI a0_script), .int (iI a0_isBound)])), (a0_result, .inr (3, [.ref a0_result_marks, .int (iI r1.1)])), (a0_result_marks, .inl (cs.1, 360, .inl (aI r1.2)))] rfl ?_
    refine j_aload_n (pc := 37) 0 ok dX5_endBase_37 rfl rfl ?_
    refine j_iconst (pc := 38) ok dX5_endBase_38 ?_
    refine pf_X5_69_5 (pc := 39) 0 ok rfl dX5_endBase_39 [(a0, .inr (5, [.ref a0_signs, .int (iI a0_length), .ref a0_result, .ref a0_stack, .int (iI a0_top), .int (iI a0_state), .int (iI a0_bracket), .int (iI a0_chain), .int (iI a0_factor), .int (iI a0_isUnder), .int (iI 0), .int (iI 0), .int (iI a0_isBound)])), (a0_result, .inr (3, [.ref a0_result_marks, .int (iI r1.1)])), (a0_result_marks, .inl (cs.1, 360, .inl (aI r1.2)))] rfl ?_
    refine j_aload_n (pc := 42) 0 ok dX5_endBase_42 rfl rfl ?_
    refine j_aload_n (pc := 43) 0 ok dX5_endBase_43 rfl rfl ?_
    refine gf_X5_72_5 (pc := 44) 0 ok rfl dX5_endBase_44 ?_
    refine jn_use (P := fun z3 => q_J D κ 2 0 0 [(a0, .inr (5, [.ref a0_signs, .int (iI a0_length), .ref a0_result, .ref a0_stack, .int (iI a0_top), .int (iI a0_state), .int (iI a0_bracket), .int (iI a0_chain), .int (iI a0_factor), .int (iI a0_isUnder), .int (iI 0), .int (iI 0), .int (iI a0_isBound)])), (a0_result, .inr (3, [.ref a0_result_marks, .int (iI r1.1)])), (a0_result_marks, .inl (cs.1, 360, .inl (aI r1.2)))] [] 55 [.int (iI z3), .ref a0]) h (fun z3 h => ?_) (fun k2 hk2 h => ?_)
    · refine pf_X5_41_5 (pc := 55) 0 ok rfl dX5_endBase_55 [(a0, .inr (5, [.ref a0_signs, .int (iI a0_length), .ref a0_result, .ref a0_stack, .int (iI a0_top), .int (iI z3), .int (iI a0_bracket), .int (iI a0_chain), .int (iI a0_factor), .int (iI a0_isUnder), .int (iI 0), .int (iI 0), .int (iI a0_isBound)])), (a0_result, .inr (3, [.ref a0_result_marks, .int (iI r1.1)])), (a0_result_marks, .inl (cs.1, 360, .inl (aI r1.2)))] rfl ?_
      obtain rfl := Option.some.inj h
      exact fin _ 58 dX5_endBase_58
    · refine j_if_eq (pc := 47) 54 ok dX5_endBase_47 (by decide) h (fun h => ?_) (fun h => ?_)
      · refine j_iconst (pc := 54) ok dX5_endBase_54 ?_
        refine j_lv [] rfl ?_
        exact hk2 0 h
      · refine j_iconst (pc := 50) ok dX5_endBase_50 ?_
        refine j_goto (pc := 51) 55 ok dX5_endBase_51 (by decide) ?_
        refine j_lv [] rfl ?_
        exact hk2 1 h
  · refine j_aload_n (pc := 7) 0 ok dX5_endBase_7 rfl rfl ?_
    refine j_iload_n (pc := 8) 1 ok dX5_endBase_8 rfl rfl ?_
    refine pf_X5_66_5 (pc := 9) 0 ok rfl dX5_endBase_9 h [(a0, .inr (5, [.ref a0_signs, .int (iI a0_length), .ref a0_result, .ref a0_stack, .int (iI a0_top), .int (iI a0_state), .int (iI a0_bracket), .int (iI a0_chain), .int (iI a0_factor), .int (iI a0_isUnder), .int (iI x1), .int (iI a0_script), .int (iI a0_isBound)])), (a0_result, .inr (3, [.ref a0_result_marks, .int (iI a0_result_size)])), (a0_result_marks, .inl (cs.1, 360, .inl (aI a0_result_marksF)))] rfl (fun h => ?_)
    refine j_aload_n (pc := 12) 0 ok dX5_endBase_12 rfl rfl ?_
    refine j_iconst (pc := 13) ok dX5_endBase_13 ?_
    refine pf_X5_41_5 (pc := 14) 0 ok rfl dX5_endBase_14 [(a0, .inr (5, [.ref a0_signs, .int (iI a0_length), .ref a0_result, .ref a0_stack, .int (iI a0_top), .int (iI 1), .int (iI a0_bracket), .int (iI a0_chain), .int (iI a0_factor), .int (iI a0_isUnder), .int (iI x1), .int (iI a0_script), .int (iI a0_isBound)])), (a0_result, .inr (3, [.ref a0_result_marks, .int (iI a0_result_size)])), (a0_result_marks, .inl (cs.1, 360, .inl (aI a0_result_marksF)))] rfl ?_
    obtain rfl := Option.some.inj h
    exact fin _ 17 dX5_endBase_17
def f_X5_isItem (a0_script : Int) (x1 : Int) : Option (Int) := jn (fun (z4 : Int) => gB z4 (some z4)) (fun k2 => jn (fun (z3 : Unit) => k2 1) (fun k1 => cEq x1 4 (k1 ()) (cEq a0_script 0 (k1 ()) (k2 0))))
set_option maxRecDepth 100000 in
set_option maxHeartbeats 4000000 in
theorem k_X5_isItem {D : va_G} {cs : q_CS} {a0 a0_signs a0_result a0_stack : Nat} {a0_length a0_top a0_state a0_bracket a0_chain a0_factor a0_isUnder a0_isPlain a0_script a0_isBound : Int} {x1 : Int} {r : (Int)} (h : f_X5_isItem a0_script x1 = some r) : q_M D cs yX5_isItem cX5_isItem 2 (some .boolean) 0 0 [.ref a0, .int (iI x1)] [(a0, .inr (5, [.ref a0_signs, .int (iI a0_length), .ref a0_result, .ref a0_stack, .int (iI a0_top), .int (iI a0_state), .int (iI a0_bracket), .int (iI a0_chain), .int (iI a0_factor), .int (iI a0_isUnder), .int (iI a0_isPlain), .int (iI a0_script), .int (iI a0_isBound)]))] (some (.int (iI r))) [(a0, .inr (5, [.ref a0_signs, .int (iI a0_length), .ref a0_result, .ref a0_stack, .int (iI a0_top), .int (iI a0_state), .int (iI a0_bracket), .int (iI a0_chain), .int (iI a0_factor), .int (iI a0_isUnder), .int (iI a0_isPlain), .int (iI a0_script), .int (iI a0_isBound)]))] := by
  refine q_start_z [(0, .ref a0), (1, .int (iI x1))] RX5 rfl (by decide +kernel) rfl (Nat.le_of_ble_eq_true rfl) (fun κ ok fin => ?_)
  unfold f_X5_isItem at h
  refine j_iload_n (pc := 0) 1 ok dX5_isItem_0 rfl rfl ?_
  refine j_iconst (pc := 1) ok dX5_isItem_1 ?_
  refine jn_use (P := fun z4 => q_J D κ 2 0 0 [(a0, .inr (5, [.ref a0_signs, .int (iI a0_length), .ref a0_result, .ref a0_stack, .int (iI a0_top), .int (iI a0_state), .int (iI a0_bracket), .int (iI a0_chain), .int (iI a0_factor), .int (iI a0_isUnder), .int (iI a0_isPlain), .int (iI a0_script), .int (iI a0_isBound)]))] [] 17 [.int (iI z4)]) h (fun z4 h => ?_) (fun k2 hk2 h => ?_)
  · obtain ⟨hbo, h⟩ := gB_inv h
    obtain rfl := Option.some.inj h
    exact fin _ 17 hbo dX5_isItem_17
  · refine jn_use (P := fun z3 => q_J D κ 2 0 0 [(a0, .inr (5, [.ref a0_signs, .int (iI a0_length), .ref a0_result, .ref a0_stack, .int (iI a0_top), .int (iI a0_state), .int (iI a0_bracket), .int (iI a0_chain), .int (iI a0_factor), .int (iI a0_isUnder), .int (iI a0_isPlain), .int (iI a0_script), .int (iI a0_isBound)]))] [] 12 []) h (fun z3 h => ?_) (fun k1 hk1 h => ?_)
    · refine j_iconst (pc := 12) ok dX5_isItem_12 ?_
      refine j_goto (pc := 13) 17 ok dX5_isItem_13 (by decide) ?_
      exact hk2 1 h
    · refine j_icmp_eq (pc := 2) 12 ok dX5_isItem_2 (by decide) h (fun h => ?_) (fun h => ?_)
      · refine j_lv [] rfl ?_
        exact hk1 () h
      · refine j_aload_n (pc := 5) 0 ok dX5_isItem_5 rfl rfl ?_
        refine gf_X5_69_5 (pc := 6) 0 ok rfl dX5_isItem_6 ?_
        refine j_if_ne (pc := 9) 16 ok dX5_isItem_9 (by decide) h (fun h => ?_) (fun h => ?_)
        · refine j_iconst (pc := 16) ok dX5_isItem_16 ?_
          refine j_lv [] rfl ?_
          exact hk2 0 h
        · refine j_lv [] rfl ?_
          exact hk1 () h
def f_X5_push (a0_top : Int) (a0_stackF : (Nat → Int)) (x1 : Int) : Option (Int × (Nat → Int)) := jn (fun (z2 : Int × (Nat → Int)) => some (z2.1, z2.2)) (fun k1 => cLt a0_top 0 (k1 (a0_top, a0_stackF)) (cLt a0_top 720 (gIn a0_top 720 (k1 (a0_top + 1, va_up a0_stackF a0_top.toNat x1))) (k1 (a0_top, a0_stackF))))
set_option maxRecDepth 100000 in
set_option maxHeartbeats 4000000 in
theorem k_X5_push {D : va_G} {cs : q_CS} {a0 a0_signs a0_result a0_stack : Nat} {a0_length a0_top a0_state a0_bracket a0_chain a0_factor a0_isUnder a0_isPlain a0_script a0_isBound : Int} {a0_stackF : (Nat → Int)} {x1 : Int} {r : (Int × (Nat → Int))} (h : f_X5_push a0_top a0_stackF x1 = some r) : q_M D cs yX5_push cX5_push 2 none 0 0 [.ref a0, .int (iI x1)] [(a0, .inr (5, [.ref a0_signs, .int (iI a0_length), .ref a0_result, .ref a0_stack, .int (iI a0_top), .int (iI a0_state), .int (iI a0_bracket), .int (iI a0_chain), .int (iI a0_factor), .int (iI a0_isUnder), .int (iI a0_isPlain), .int (iI a0_script), .int (iI a0_isBound)])), (a0_stack, .inl (cs.1, 720, .inl (aI a0_stackF)))] none [(a0, .inr (5, [.ref a0_signs, .int (iI a0_length), .ref a0_result, .ref a0_stack, .int (iI r.1), .int (iI a0_state), .int (iI a0_bracket), .int (iI a0_chain), .int (iI a0_factor), .int (iI a0_isUnder), .int (iI a0_isPlain), .int (iI a0_script), .int (iI a0_isBound)])), (a0_stack, .inl (cs.1, 720, .inl (aI r.2)))] := by
  refine q_start_v [(0, .ref a0), (1, .int (iI x1))] RX5 rfl (by decide +kernel) rfl (Nat.le_of_ble_eq_true rfl) (fun κ ok fin => ?_)
  unfold f_X5_push at h
  refine j_aload_n (pc := 0) 0 ok dX5_push_0 rfl rfl ?_
  refine gf_X5_50_5 (pc := 1) 0 ok rfl dX5_push_1 ?_
  refine jn_use (P := fun z2 => q_J D κ 2 0 0 [(a0, .inr (5, [.ref a0_signs, .int (iI a0_length), .ref a0_result, .ref a0_stack, .int (iI z2.1), .int (iI a0_state), .int (iI a0_bracket), .int (iI a0_chain), .int (iI a0_factor), .int (iI a0_isUnder), .int (iI a0_isPlain), .int (iI a0_script), .int (iI a0_isBound)])), (a0_stack, .inl (cs.1, 720, .inl (aI z2.2)))] [] 39 []) h (fun z2 h => ?_) (fun k1 hk1 h => ?_)
  · obtain rfl := Option.some.inj h
    exact fin _ 39 dX5_push_39
  · refine j_if_lt (pc := 4) 39 ok dX5_push_4 (by decide) h (fun h => ?_) (fun h => ?_)
    · refine j_lv [] rfl ?_
      exact hk1 (a0_top, a0_stackF) h
    · refine j_aload_n (pc := 7) 0 ok dX5_push_7 rfl rfl ?_
      refine gf_X5_50_5 (pc := 8) 0 ok rfl dX5_push_8 ?_
      refine j_aload_n (pc := 11) 0 ok dX5_push_11 rfl rfl ?_
      refine gf_X5_24_5 (pc := 12) 0 ok rfl dX5_push_12 ?_
      refine j_alen (pc := 15) 1 0 ok rfl rfl dX5_push_15 ?_
      refine j_icmp_ge (pc := 16) 39 ok dX5_push_16 (by decide) h (fun h => ?_) (fun h => ?_)
      · refine j_lv [] rfl ?_
        exact hk1 (a0_top, a0_stackF) h
      · refine j_aload_n (pc := 19) 0 ok dX5_push_19 rfl rfl ?_
        refine gf_X5_24_5 (pc := 20) 0 ok rfl dX5_push_20 ?_
        refine j_aload_n (pc := 23) 0 ok dX5_push_23 rfl rfl ?_
        refine gf_X5_50_5 (pc := 24) 0 ok rfl dX5_push_24 ?_
        refine j_iload_n (pc := 27) 1 ok dX5_push_27 rfl rfl ?_
        refine j_iastw (pc := 28) 1 ok rfl dX5_push_28 h [(a0, .inr (5, [.ref a0_signs, .int (iI a0_length), .ref a0_result, .ref a0_stack, .int (iI a0_top), .int (iI a0_state), .int (iI a0_bracket), .int (iI a0_chain), .int (iI a0_factor), .int (iI a0_isUnder), .int (iI a0_isPlain), .int (iI a0_script), .int (iI a0_isBound)])), (a0_stack, .inl (cs.1, 720, .inl (aI (va_up a0_stackF a0_top.toNat x1))))] rfl (fun h => ?_)
        refine j_aload_n (pc := 29) 0 ok dX5_push_29 rfl rfl ?_
        refine j_dup (pc := 30) ok dX5_push_30 rfl ?_
        refine gf_X5_50_5 (pc := 31) 0 ok rfl dX5_push_31 ?_
        refine j_iconst (pc := 34) ok dX5_push_34 ?_
        refine j_iadd (pc := 35) ok dX5_push_35 ?_
        refine pf_X5_50_5 (pc := 36) 0 ok rfl dX5_push_36 [(a0, .inr (5, [.ref a0_signs, .int (iI a0_length), .ref a0_result, .ref a0_stack, .int (iI (a0_top + 1)), .int (iI a0_state), .int (iI a0_bracket), .int (iI a0_chain), .int (iI a0_factor), .int (iI a0_isUnder), .int (iI a0_isPlain), .int (iI a0_script), .int (iI a0_isBound)])), (a0_stack, .inl (cs.1, 720, .inl (aI (va_up a0_stackF a0_top.toNat x1))))] rfl ?_
        refine j_lv [] rfl ?_
        exact hk1 (a0_top + 1, va_up a0_stackF a0_top.toNat x1) h
def f_X5_opensBracket (a0_top : Int) (a0_state : Int) (a0_bracket : Int) (a0_chain : Int) (a0_factor : Int) (a0_isUnder : Int) (a0_isPlain : Int) (a0_script : Int) (a0_isBound : Int) (a0_result_size : Int) (a0_stackF : (Nat → Int)) (a0_result_marksF : (Nat → Int)) (x1 : Int) : Option (Int × Int × Int × Int × Int × Int × Int × Int × Int × Int × Int × (Nat → Int) × (Nat → Int)) := cLt (720 - 6) a0_top (gB 0 (some (0, a0_top, a0_state, a0_bracket, a0_chain, a0_factor, a0_isUnder, a0_isPlain, a0_script, a0_isBound, a0_result_size, a0_stackF, a0_result_marksF))) (bd (f_X5_isItem a0_script x1) (fun r1 => jn (fun (z4 : Int × (Nat → Int)) => bd (f_X5_push a0_top a0_stackF a0_bracket) (fun r5 => bd (f_X5_push r5.1 r5.2 a0_chain) (fun r6 => bd (f_X5_push r6.1 r6.2 a0_factor) (fun r7 => jn (fun (z9 : Int) => bd (f_X5_push r7.1 r7.2 z9) (fun r10 => bd (f_X5_push r10.1 r10.2 a0_script) (fun r11 => jn (fun (z13 : Int) => bd (f_X5_push r11.1 r11.2 z13) (fun r14 => bd (f_X5_beginText a0_state a0_chain a0_factor a0_isUnder a0_isPlain a0_script a0_isBound z4.1) (fun r15 => gB 1 (some (1, r14.1, r15.1, x1, r15.2.1, r15.2.2.1, r15.2.2.2.1, r15.2.2.2.2.1, r15.2.2.2.2.2.1, r15.2.2.2.2.2.2, z4.1, r14.2, z4.2))))) (fun k12 => cEq a0_isBound 0 (k12 0) (k12 1))))) (fun k8 => cEq a0_isUnder 0 (k8 0) (k8 1)))))) (fun k2 => cEq r1 0 (k2 (a0_result_size, a0_result_marksF)) (bd (f_X3_add 360 a0_result_size a0_result_marksF x1) (fun r3 => k2 (r3.1, r3.2))))))
set_option maxRecDepth 100000 in
set_option maxHeartbeats 4000000 in
theorem k_X5_opensBracket {D : va_G} {cs : q_CS} {a0 a0_signs a0_result a0_stack a0_result_marks : Nat} {a0_length a0_top a0_state a0_bracket a0_chain a0_factor a0_isUnder a0_isPlain a0_script a0_isBound a0_result_size : Int} {a0_stackF a0_result_marksF : (Nat → Int)} {x1 : Int} {r : (Int × Int × Int × Int × Int × Int × Int × Int × Int × Int × Int × (Nat → Int) × (Nat → Int))} (h : f_X5_opensBracket a0_top a0_state a0_bracket a0_chain a0_factor a0_isUnder a0_isPlain a0_script a0_isBound a0_result_size a0_stackF a0_result_marksF x1 = some r) : q_M D cs yX5_opensBracket cX5_opensBracket 2 (some .boolean) 1 21 [.ref a0, .int (iI x1)] [(a0, .inr (5, [.ref a0_signs, .int (iI a0_length), .ref a0_result, .ref a0_stack, .int (iI a0_top), .int (iI a0_state), .int (iI a0_bracket), .int (iI a0_chain), .int (iI a0_factor), .int (iI a0_isUnder), .int (iI a0_isPlain), .int (iI a0_script), .int (iI a0_isBound)])), (a0_result, .inr (3, [.ref a0_result_marks, .int (iI a0_result_size)])), (a0_stack, .inl (cs.1, 720, .inl (aI a0_stackF))), (a0_result_marks, .inl (cs.1, 360, .inl (aI a0_result_marksF)))] (some (.int (iI r.1))) [(a0, .inr (5, [.ref a0_signs, .int (iI a0_length), .ref a0_result, .ref a0_stack, .int (iI r.2.1), .int (iI r.2.2.1), .int (iI r.2.2.2.1), .int (iI r.2.2.2.2.1), .int (iI r.2.2.2.2.2.1), .int (iI r.2.2.2.2.2.2.1), .int (iI r.2.2.2.2.2.2.2.1), .int (iI r.2.2.2.2.2.2.2.2.1), .int (iI r.2.2.2.2.2.2.2.2.2.1)])), (a0_result, .inr (3, [.ref a0_result_marks, .int (iI r.2.2.2.2.2.2.2.2.2.2.1)])), (a0_stack, .inl (cs.1, 720, .inl (aI r.2.2.2.2.2.2.2.2.2.2.2.1))), (a0_result_marks, .inl (cs.1, 360, .inl (aI r.2.2.2.2.2.2.2.2.2.2.2.2)))] := by
  refine q_start_z [(0, .ref a0), (1, .int (iI x1))] RX5 rfl (by decide +kernel) rfl (Nat.le_of_ble_eq_true rfl) (fun κ ok fin => ?_)
  unfold f_X5_opensBracket at h
  refine j_aload_n (pc := 0) 0 ok dX5_opensBracket_0 rfl rfl ?_
  refine gf_X5_50_5 (pc := 1) 0 ok rfl dX5_opensBracket_1 ?_
  refine j_aload_n (pc := 4) 0 ok dX5_opensBracket_4 rfl rfl ?_
  refine gf_X5_24_5 (pc := 5) 0 ok rfl dX5_opensBracket_5 ?_
  refine j_alen (pc := 8) 2 0 ok rfl rfl dX5_opensBracket_8 ?_
  refine j_bipush (pc := 9) ok dX5_opensBracket_9 (by decide) ?_
  refine j_isub (pc := 11) ok dX5_opensBracket_11 ?_
  refine j_icmp_le (pc := 12) 17 ok dX5_opensBracket_12 (by decide) h (fun h => ?_) (fun h => ?_)
  · refine j_aload_n (pc := 17) 0 ok dX5_opensBracket_17 rfl rfl ?_
    refine j_iload_n (pc := 18) 1 ok dX5_opensBracket_18 rfl rfl ?_
    obtain ⟨r1, hr1, h⟩ := bd_inv h
    refine j_callV (pc := 19) ok (k_X5_isItem (a0 := a0) (a0_signs := a0_signs) (a0_result := a0_result) (a0_stack := a0_stack) (a0_length := a0_length) (a0_top := a0_top) (a0_state := a0_state) (a0_bracket := a0_bracket) (a0_chain := a0_chain) (a0_factor := a0_factor) (a0_isUnder := a0_isUnder) (a0_isPlain := a0_isPlain) (a0_script := a0_script) (a0_isBound := a0_isBound) (x1 := x1) hr1) gV_X5_120 ⟨rfl, hd_X5_isItem⟩ [0] (by decide) rfl rfl 0 rfl rfl rfl rfl ⟨Nat.zero_le _, Nat.zero_le _⟩ (Nat.le_of_ble_eq_true rfl) dX5_opensBracket_19 rfl [(a0, .inr (5, [.ref a0_signs, .int (iI a0_length), .ref a0_result, .ref a0_stack, .int (iI a0_top), .int (iI a0_state), .int (iI a0_bracket), .int (iI a0_chain), .int (iI a0_factor), .int (iI a0_isUnder), .int (iI a0_isPlain), .int (iI a0_script), .int (iI a0_isBound)])), (a0_result, .inr (3, [.ref a0_result_marks, .int (iI a0_result_size)])), (a0_stack, .inl (cs.1, 720, .inl (aI a0_stackF))), (a0_result_marks, .inl (cs.1, 360, .inl (aI a0_result_marksF)))] rfl ?_
    refine jn_use (P := fun z4 => q_J D κ 2 0 0 [(a0, .inr (5, [.ref a0_signs, .int (iI a0_length), .ref a0_result, .ref a0_stack, .int (iI a0_top), .int (iI a0_state), .int (iI a0_bracket), .int (iI a0_chain), .int (iI a0_factor), .int (iI a0_isUnder), .int (iI a0_isPlain), .int (iI a0_script), .int (iI a0_isBound)])), (a0_result, .inr (3, [.ref a0_result_marks, .int (iI z4.1)])), (a0_stack, .inl (cs.1, 720, .inl (aI a0_stackF))), (a0_result_marks, .inl (cs.1, 360, .inl (aI z4.2)))] [(0, .ref a0), (1, .int (iI x1))] 33 []) h (fun z4 h => ?_) (fun k2 hk2 h => ?_)
    · refine j_aload_n (pc := 33) 0 ok dX5_opensBracket_33 rfl rfl ?_
      refine j_aload_n (pc := 34) 0 ok dX5_opensBracket_34 rfl rfl ?_
      refine gf_X5_38_5 (pc := 35) 0 ok rfl dX5_opensBracket_35 ?_
      obtain ⟨r5, hr5, h⟩ := bd_inv h
      refine j_callV (pc := 38) ok (k_X5_push (a0 := a0) (a0_signs := a0_signs) (a0_result := a0_result) (a0_stack := a0_stack) (a0_length := a0_length) (a0_top := a0_top) (a0_state := a0_state) (a0_bracket := a0_bracket) (a0_chain := a0_chain) (a0_factor := a0_factor) (a0_isUnder := a0_isUnder) (a0_isPlain := a0_isPlain) (a0_script := a0_script) (a0_isBound := a0_isBound) (a0_stackF := a0_stackF) (x1 := a0_bracket) hr5) gV_X5_123 ⟨rfl, hd_X5_push⟩ [0, 2] (by decide) rfl rfl 0 rfl rfl rfl rfl ⟨Nat.zero_le _, Nat.zero_le _⟩ (Nat.le_of_ble_eq_true rfl) dX5_opensBracket_38 rfl [(a0, .inr (5, [.ref a0_signs, .int (iI a0_length), .ref a0_result, .ref a0_stack, .int (iI r5.1), .int (iI a0_state), .int (iI a0_bracket), .int (iI a0_chain), .int (iI a0_factor), .int (iI a0_isUnder), .int (iI a0_isPlain), .int (iI a0_script), .int (iI a0_isBound)])), (a0_result, .inr (3, [.ref a0_result_marks, .int (iI z4.1)])), (a0_stack, .inl (cs.1, 720, .inl (aI r5.2))), (a0_result_marks, .inl (cs.1, 360, .inl (aI z4.2)))] rfl ?_
      refine j_aload_n (pc := 41) 0 ok dX5_opensBracket_41 rfl rfl ?_
      refine j_aload_n (pc := 42) 0 ok dX5_opensBracket_42 rfl rfl ?_
      refine gf_X5_56_5 (pc := 43) 0 ok rfl dX5_opensBracket_43 ?_
      obtain ⟨r6, hr6, h⟩ := bd_inv h
      refine j_callV (pc := 46) ok (k_X5_push (a0 := a0) (a0_signs := a0_signs) (a0_result := a0_result) (a0_stack := a0_stack) (a0_length := a0_length) (a0_top := r5.1) (a0_state := a0_state) (a0_bracket := a0_bracket) (a0_chain := a0_chain) (a0_factor := a0_factor) (a0_isUnder := a0_isUnder) (a0_isPlain := a0_isPlain) (a0_script := a0_script) (a0_isBound := a0_isBound) (a0_stackF := r5.2) (x1 := a0_chain) hr6) gV_X5_123 ⟨rfl, hd_X5_push⟩ [0, 2] (by decide) rfl rfl 0 rfl rfl rfl rfl ⟨Nat.zero_le _, Nat.zero_le _⟩ (Nat.le_of_ble_eq_true rfl) dX5_opensBracket_46 rfl [(a0, .inr (5, [.ref a0_signs, .int (iI a0_length), .ref a0_result, .ref a0_stack, .int (iI r6.1), .int (iI a0_state), .int (iI a0_bracket), .int (iI a0_chain), .int (iI a0_factor), .int (iI a0_isUnder), .int (iI a0_isPlain), .int (iI a0_script), .int (iI a0_isBound)])), (a0_result, .inr (3, [.ref a0_result_marks, .int (iI z4.1)])), (a0_stack, .inl (cs.1, 720, .inl (aI r6.2))), (a0_result_marks, .inl (cs.1, 360, .inl (aI z4.2)))] rfl ?_
      refine j_aload_n (pc := 49) 0 ok dX5_opensBracket_49 rfl rfl ?_
      refine j_aload_n (pc := 50) 0 ok dX5_opensBracket_50 rfl rfl ?_
      refine gf_X5_59_5 (pc := 51) 0 ok rfl dX5_opensBracket_51 ?_
      obtain ⟨r7, hr7, h⟩ := bd_inv h
      refine j_callV (pc := 54) ok (k_X5_push (a0 := a0) (a0_signs := a0_signs) (a0_result := a0_result) (a0_stack := a0_stack) (a0_length := a0_length) (a0_top := r6.1) (a0_state := a0_state) (a0_bracket := a0_bracket) (a0_chain := a0_chain) (a0_factor := a0_factor) (a0_isUnder := a0_isUnder) (a0_isPlain := a0_isPlain) (a0_script := a0_script) (a0_isBound := a0_isBound) (a0_stackF := r6.2) (x1 := a0_factor) hr7) gV_X5_123 ⟨rfl, hd_X5_push⟩ [0, 2] (by decide) rfl rfl 0 rfl rfl rfl rfl ⟨Nat.zero_le _, Nat.zero_le _⟩ (Nat.le_of_ble_eq_true rfl) dX5_opensBracket_54 rfl [(a0, .inr (5, [.ref a0_signs, .int (iI a0_length), .ref a0_result, .ref a0_stack, .int (iI r7.1), .int (iI a0_state), .int (iI a0_bracket), .int (iI a0_chain), .int (iI a0_factor), .int (iI a0_isUnder), .int (iI a0_isPlain), .int (iI a0_script), .int (iI a0_isBound)])), (a0_result, .inr (3, [.ref a0_result_marks, .int (iI z4.1)])), (a0_stack, .inl (cs.1, 720, .inl (aI r7.2))), (a0_result_marks, .inl (cs.1, 360, .inl (aI z4.2)))] rfl ?_
      refine j_aload_n (pc := 57) 0 ok dX5_opensBracket_57 rfl rfl ?_
      refine j_aload_n (pc := 58) 0 ok dX5_opensBracket_58 rfl rfl ?_
      refine gf_X5_62_5 (pc := 59) 0 ok rfl dX5_opensBracket_59 ?_
      refine jn_use (P := fun z9 => q_J D κ 2 0 0 [(a0, .inr (5, [.ref a0_signs, .int (iI a0_length), .ref a0_result, .ref a0_stack, .int (iI r7.1), .int (iI a0_state), .int (iI a0_bracket), .int (iI a0_chain), .int (iI a0_factor), .int (iI a0_isUnder), .int (iI a0_isPlain), .int (iI a0_script), .int (iI a0_isBound)])), (a0_result, .inr (3, [.ref a0_result_marks, .int (iI z4.1)])), (a0_stack, .inl (cs.1, 720, .inl (aI r7.2))), (a0_result_marks, .inl (cs.1, 360, .inl (aI z4.2)))] [(0, .ref a0), (1, .int (iI x1))] 70 [.int (iI z9), .ref a0]) h (fun z9 h => ?_) (fun k8 hk8 h => ?_)
      · obtain ⟨r10, hr10, h⟩ := bd_inv h
        refine j_callV (pc := 70) ok (k_X5_push (a0 := a0) (a0_signs := a0_signs) (a0_result := a0_result) (a0_stack := a0_stack) (a0_length := a0_length) (a0_top := r7.1) (a0_state := a0_state) (a0_bracket := a0_bracket) (a0_chain := a0_chain) (a0_factor := a0_factor) (a0_isUnder := a0_isUnder) (a0_isPlain := a0_isPlain) (a0_script := a0_script) (a0_isBound := a0_isBound) (a0_stackF := r7.2) (x1 := z9) hr10) gV_X5_123 ⟨rfl, hd_X5_push⟩ [0, 2] (by decide) rfl rfl 0 rfl rfl rfl rfl ⟨Nat.zero_le _, Nat.zero_le _⟩ (Nat.le_of_ble_eq_true rfl) dX5_opensBracket_70 rfl [(a0, .inr (5, [.ref a0_signs, .int (iI a0_length), .ref a0_result, .ref a0_stack, .int (iI r10.1), .int (iI a0_state), .int (iI a0_bracket), .int (iI a0_chain), .int (iI a0_factor), .int (iI a0_isUnder), .int (iI a0_isPlain), .int (iI a0_script), .int (iI a0_isBound)])), (a0_result, .inr (3, [.ref a0_result_marks, .int (iI z4.1)])), (a0_stack, .inl (cs.1, 720, .inl (aI r10.2))), (a0_result_marks, .inl (cs.1, 360, .inl (aI z4.2)))] rfl ?_
        refine j_aload_n (pc := 73) 0 ok dX5_opensBracket_73 rfl rfl ?_
        refine j_aload_n (pc := 74) 0 ok dX5_opensBracket_74 rfl rfl ?_
        refine gf_X5_69_5 (pc := 75) 0 ok rfl dX5_opensBracket_75 ?_
        obtain ⟨r11, hr11, h⟩ := bd_inv h
        refine j_callV (pc := 78) ok (k_X5_push (a0 := a0) (a0_signs := a0_signs) (a0_result := a0_result) (a0_stack := a0_stack) (a0_length := a0_length) (a0_top := r10.1) (a0_state := a0_state) (a0_bracket := a0_bracket) (a0_chain := a0_chain) (a0_factor := a0_factor) (a0_isUnder := a0_isUnder) (a0_isPlain := a0_isPlain) (a0_script := a0_script) (a0_isBound := a0_isBound) (a0_stackF := r10.2) (x1 := a0_script) hr11) gV_X5_123 ⟨rfl, hd_X5_push⟩ [0, 2] (by decide) rfl rfl 0 rfl rfl rfl rfl ⟨Nat.zero_le _, Nat.zero_le _⟩ (Nat.le_of_ble_eq_true rfl) dX5_opensBracket_78 rfl [(a0, .inr (5, [.ref a0_signs, .int (iI a0_length), .ref a0_result, .ref a0_stack, .int (iI r11.1), .int (iI a0_state), .int (iI a0_bracket), .int (iI a0_chain), .int (iI a0_factor), .int (iI a0_isUnder), .int (iI a0_isPlain), .int (iI a0_script), .int (iI a0_isBound)])), (a0_result, .inr (3, [.ref a0_result_marks, .int (iI z4.1)])), (a0_stack, .inl (cs.1, 720, .inl (aI r11.2))), (a0_result_marks, .inl (cs.1, 360, .inl (aI z4.2)))] rfl ?_
        refine j_aload_n (pc := 81) 0 ok dX5_opensBracket_81 rfl rfl ?_
        refine j_aload_n (pc := 82) 0 ok dX5_opensBracket_82 rfl rfl ?_
        refine gf_X5_72_5 (pc := 83) 0 ok rfl dX5_opensBracket_83 ?_
        refine jn_use (P := fun z13 => q_J D κ 2 0 0 [(a0, .inr (5, [.ref a0_signs, .int (iI a0_length), .ref a0_result, .ref a0_stack, .int (iI r11.1), .int (iI a0_state), .int (iI a0_bracket), .int (iI a0_chain), .int (iI a0_factor), .int (iI a0_isUnder), .int (iI a0_isPlain), .int (iI a0_script), .int (iI a0_isBound)])), (a0_result, .inr (3, [.ref a0_result_marks, .int (iI z4.1)])), (a0_stack, .inl (cs.1, 720, .inl (aI r11.2))), (a0_result_marks, .inl (cs.1, 360, .inl (aI z4.2)))] [(0, .ref a0), (1, .int (iI x1))] 94 [.int (iI z13), .ref a0]) h (fun z13 h => ?_) (fun k12 hk12 h => ?_)
        · obtain ⟨r14, hr14, h⟩ := bd_inv h
          refine j_callV (pc := 94) ok (k_X5_push (a0 := a0) (a0_signs := a0_signs) (a0_result := a0_result) (a0_stack := a0_stack) (a0_length := a0_length) (a0_top := r11.1) (a0_state := a0_state) (a0_bracket := a0_bracket) (a0_chain := a0_chain) (a0_factor := a0_factor) (a0_isUnder := a0_isUnder) (a0_isPlain := a0_isPlain) (a0_script := a0_script) (a0_isBound := a0_isBound) (a0_stackF := r11.2) (x1 := z13) hr14) gV_X5_123 ⟨rfl, hd_X5_push⟩ [0, 2] (by decide) rfl rfl 0 rfl rfl rfl rfl ⟨Nat.zero_le _, Nat.zero_le _⟩ (Nat.le_of_ble_eq_true rfl) dX5_opensBracket_94 rfl [(a0, .inr (5, [.ref a0_signs, .int (iI a0_length), .ref a0_result, .ref a0_stack, .int (iI r14.1), .int (iI a0_state), .int (iI a0_bracket), .int (iI a0_chain), .int (iI a0_factor), .int (iI a0_isUnder), .int (iI a0_isPlain), .int (iI a0_script), .int (iI a0_isBound)])), (a0_result, .inr (3, [.ref a0_result_marks, .int (iI z4.1)])), (a0_stack, .inl (cs.1, 720, .inl (aI r14.2))), (a0_result_marks, .inl (cs.1, 360, .inl (aI z4.2)))] rfl ?_
          refine j_aload_n (pc := 97) 0 ok dX5_opensBracket_97 rfl rfl ?_
          refine j_iload_n (pc := 98) 1 ok dX5_opensBracket_98 rfl rfl ?_
          refine pf_X5_38_5 (pc := 99) 0 ok rfl dX5_opensBracket_99 [(a0, .inr (5, [.ref a0_signs, .int (iI a0_length), .ref a0_result, .ref a0_stack, .int (iI r14.1), .int (iI a0_state), .int (iI x1), .int (iI a0_chain), .int (iI a0_factor), .int (iI a0_isUnder), .int (iI a0_isPlain), .int (iI a0_script), .int (iI a0_isBound)])), (a0_result, .inr (3, [.ref a0_result_marks, .int (iI z4.1)])), (a0_stack, .inl (cs.1, 720, .inl (aI r14.2))), (a0_result_marks, .inl (cs.1, 360, .inl (aI z4.2)))] rfl ?_
          refine j_aload_n (pc := 102) 0 ok dX5_opensBracket_102 rfl rfl ?_
          obtain ⟨r15, hr15, h⟩ := bd_inv h
          refine j_callV (pc := 103) ok (k_X5_beginText (a0 := a0) (a0_signs := a0_signs) (a0_result := a0_result) (a0_stack := a0_stack) (a0_result_marks := a0_result_marks) (a0_length := a0_length) (a0_top := r14.1) (a0_state := a0_state) (a0_bracket := x1) (a0_chain := a0_chain) (a0_factor := a0_factor) (a0_isUnder := a0_isUnder) (a0_isPlain := a0_isPlain) (a0_script := a0_script) (a0_isBound := a0_isBound) (a0_result_size := z4.1) hr15) gV_X5_53 ⟨rfl, hd_X5_beginText⟩ [0, 1] (by decide) rfl rfl 0 rfl rfl rfl rfl ⟨Nat.zero_le _, Nat.zero_le _⟩ (Nat.le_of_ble_eq_true rfl) dX5_opensBracket_103 rfl [(a0, .inr (5, [.ref a0_signs, .int (iI a0_length), .ref a0_result, .ref a0_stack, .int (iI r14.1), .int (iI r15.1), .int (iI x1), .int (iI r15.2.1), .int (iI r15.2.2.1), .int (iI r15.2.2.2.1), .int (iI r15.2.2.2.2.1), .int (iI r15.2.2.2.2.2.1), .int (iI r15.2.2.2.2.2.2)])), (a0_result, .inr (3, [.ref a0_result_marks, .int (iI z4.1)])), (a0_stack, .inl (cs.1, 720, .inl (aI r14.2))), (a0_result_marks, .inl (cs.1, 360, .inl (aI z4.2)))] rfl ?_
          refine j_iconst (pc := 106) ok dX5_opensBracket_106 ?_
          obtain ⟨hbo, h⟩ := gB_inv h
          obtain rfl := Option.some.inj h
          exact fin _ 107 hbo dX5_opensBracket_107
        · refine j_if_eq (pc := 86) 93 ok dX5_opensBracket_86 (by decide) h (fun h => ?_) (fun h => ?_)
          · refine j_iconst (pc := 93) ok dX5_opensBracket_93 ?_
            exact hk12 0 h
          · refine j_iconst (pc := 89) ok dX5_opensBracket_89 ?_
            refine j_goto (pc := 90) 94 ok dX5_opensBracket_90 (by decide) ?_
            exact hk12 1 h
      · refine j_if_eq (pc := 62) 69 ok dX5_opensBracket_62 (by decide) h (fun h => ?_) (fun h => ?_)
        · refine j_iconst (pc := 69) ok dX5_opensBracket_69 ?_
          exact hk8 0 h
        · refine j_iconst (pc := 65) ok dX5_opensBracket_65 ?_
          refine j_goto (pc := 66) 70 ok dX5_opensBracket_66 (by decide) ?_
          exact hk8 1 h
    · refine j_if_eq (pc := 22) 33 ok dX5_opensBracket_22 (by decide) h (fun h => ?_) (fun h => ?_)
      · exact hk2 (a0_result_size, a0_result_marksF) h
      · refine j_aload_n (pc := 25) 0 ok dX5_opensBracket_25 rfl rfl ?_
        refine gf_X5_20_5 (pc := 26) 0 ok rfl dX5_opensBracket_26 ?_
        refine j_iload_n (pc := 29) 1 ok dX5_opensBracket_29 rfl rfl ?_
        obtain ⟨r3, hr3, h⟩ := bd_inv h
        refine j_callV (pc := 30) ok (k_X3_add (a0 := a0_result) (a0_marks := a0_result_marks) (a0_ci := 3) (a0_fx := []) (a0_marksN := 360) (a0_size := a0_result_size) (a0_marksF := a0_result_marksF) (x1 := x1) q_mk3 hr3) gV_X5_94 ⟨rfl, hd_X3_add⟩ [1, 3] (by decide) rfl rfl 1 rfl rfl rfl rfl ⟨Nat.zero_le _, Nat.zero_le _⟩ (Nat.le_of_ble_eq_true rfl) dX5_opensBracket_30 rfl [(a0, .inr (5, [.ref a0_signs, .int (iI a0_length), .ref a0_result, .ref a0_stack, .int (iI a0_top), .int (iI a0_state), .int (iI a0_bracket), .int (iI a0_chain), .int (iI a0_factor), .int (iI a0_isUnder), .int (iI a0_isPlain), .int (iI a0_script), .int (iI a0_isBound)])), (a0_result, .inr (3, [.ref a0_result_marks, .int (iI r3.1)])), (a0_stack, .inl (cs.1, 720, .inl (aI a0_stackF))), (a0_result_marks, .inl (cs.1, 360, .inl (aI r3.2)))] rfl ?_
        exact hk2 (r3.1, r3.2) h
  · refine j_iconst (pc := 15) ok dX5_opensBracket_15 ?_
    obtain ⟨hbo, h⟩ := gB_inv h
    obtain rfl := Option.some.inj h
    exact fin _ 16 hbo dX5_opensBracket_16
def f_X5_takesBase (a0_top : Int) (a0_state : Int) (a0_bracket : Int) (a0_chain : Int) (a0_factor : Int) (a0_isUnder : Int) (a0_isPlain : Int) (a0_script : Int) (a0_isBound : Int) (a0_result_size : Int) (a0_stackF : (Nat → Int)) (a0_result_marksF : (Nat → Int)) (x1 : Int) : Option (Int × Int × Int × Int × Int × Int × Int × Int × Int × Int × Int × (Nat → Int) × (Nat → Int)) := bd (f_X7_isLetter x1) (fun r1 => jn (fun (z9 : Unit) => bd (f_X3_add 360 a0_result_size a0_result_marksF x1) (fun r10 => bd (f_X5_endBase a0_state a0_isPlain a0_script a0_isBound r10.1 r10.2 0) (fun r11 => gB 1 (some (1, a0_top, r11.1, a0_bracket, a0_chain, a0_factor, a0_isUnder, r11.2.1, r11.2.2.1, a0_isBound, r11.2.2.2.1, a0_stackF, r11.2.2.2.2))))) (fun k2 => cEq r1 0 (bd (f_X7_isDigit x1) (fun r3 => cEq r3 0 (cEq x1 114 (gB 1 (some (1, a0_top, 3, a0_bracket, a0_chain, a0_factor, a0_isUnder, a0_isPlain, a0_script, a0_isBound, a0_result_size, a0_stackF, a0_result_marksF))) (jn (fun (z8 : Int × Int × Int × Int × Int × Int × Int × Int × Int × Int × (Nat → Int) × (Nat → Int) × Int) => gB z8.2.2.2.2.2.2.2.2.2.2.2.2 (some (z8.2.2.2.2.2.2.2.2.2.2.2.2, z8.1, z8.2.1, z8.2.2.1, z8.2.2.2.1, z8.2.2.2.2.1, z8.2.2.2.2.2.1, z8.2.2.2.2.2.2.1, z8.2.2.2.2.2.2.2.1, z8.2.2.2.2.2.2.2.2.1, z8.2.2.2.2.2.2.2.2.2.1, z8.2.2.2.2.2.2.2.2.2.2.1, z8.2.2.2.2.2.2.2.2.2.2.2.1))) (fun k5 => jn (fun (z7 : Int × Int × Int × Int × Int × Int × Int × Int × Int × Int × (Nat → Int) × (Nat → Int)) => k5 (z7.1, z7.2.1, z7.2.2.1, z7.2.2.2.1, z7.2.2.2.2.1, z7.2.2.2.2.2.1, z7.2.2.2.2.2.2.1, z7.2.2.2.2.2.2.2.1, z7.2.2.2.2.2.2.2.2.1, z7.2.2.2.2.2.2.2.2.2.1, z7.2.2.2.2.2.2.2.2.2.2.1, z7.2.2.2.2.2.2.2.2.2.2.2, 0)) (fun k4 => cEq x1 40 (bd (f_X5_opensBracket a0_top a0_state a0_bracket a0_chain a0_factor a0_isUnder a0_isPlain a0_script a0_isBound a0_result_size a0_stackF a0_result_marksF 5) (fun r6 => cEq r6.1 0 (k4 (r6.2.1, r6.2.2.1, r6.2.2.2.1, r6.2.2.2.2.1, r6.2.2.2.2.2.1, r6.2.2.2.2.2.2.1, r6.2.2.2.2.2.2.2.1, r6.2.2.2.2.2.2.2.2.1, r6.2.2.2.2.2.2.2.2.2.1, r6.2.2.2.2.2.2.2.2.2.2.1, r6.2.2.2.2.2.2.2.2.2.2.2.1, r6.2.2.2.2.2.2.2.2.2.2.2.2)) (k5 (r6.2.1, r6.2.2.1, r6.2.2.2.1, r6.2.2.2.2.1, r6.2.2.2.2.2.1, r6.2.2.2.2.2.2.1, r6.2.2.2.2.2.2.2.1, r6.2.2.2.2.2.2.2.2.1, r6.2.2.2.2.2.2.2.2.2.1, r6.2.2.2.2.2.2.2.2.2.2.1, r6.2.2.2.2.2.2.2.2.2.2.2.1, r6.2.2.2.2.2.2.2.2.2.2.2.2, 1)))) (k4 (a0_top, a0_state, a0_bracket, a0_chain, a0_factor, a0_isUnder, a0_isPlain, a0_script, a0_isBound, a0_result_size, a0_stackF, a0_result_marksF)))))) (k2 ()))) (k2 ())))
set_option maxRecDepth 100000 in
set_option maxHeartbeats 4000000 in
theorem k_X5_takesBase {D : va_G} {cs : q_CS} {a0 a0_signs a0_result a0_stack a0_result_marks : Nat} {a0_length a0_top a0_state a0_bracket a0_chain a0_factor a0_isUnder a0_isPlain a0_script a0_isBound a0_result_size : Int} {a0_stackF a0_result_marksF : (Nat → Int)} {x1 : Int} {r : (Int × Int × Int × Int × Int × Int × Int × Int × Int × Int × Int × (Nat → Int) × (Nat → Int))} (h : f_X5_takesBase a0_top a0_state a0_bracket a0_chain a0_factor a0_isUnder a0_isPlain a0_script a0_isBound a0_result_size a0_stackF a0_result_marksF x1 = some r) : q_M D cs yX5_takesBase cX5_takesBase 2 (some .boolean) 2 42 [.ref a0, .int (iI x1)] [(a0, .inr (5, [.ref a0_signs, .int (iI a0_length), .ref a0_result, .ref a0_stack, .int (iI a0_top), .int (iI a0_state), .int (iI a0_bracket), .int (iI a0_chain), .int (iI a0_factor), .int (iI a0_isUnder), .int (iI a0_isPlain), .int (iI a0_script), .int (iI a0_isBound)])), (a0_result, .inr (3, [.ref a0_result_marks, .int (iI a0_result_size)])), (a0_stack, .inl (cs.1, 720, .inl (aI a0_stackF))), (a0_result_marks, .inl (cs.1, 360, .inl (aI a0_result_marksF)))] (some (.int (iI r.1))) [(a0, .inr (5, [.ref a0_signs, .int (iI a0_length), .ref a0_result, .ref a0_stack, .int (iI r.2.1), .int (iI r.2.2.1), .int (iI r.2.2.2.1), .int (iI r.2.2.2.2.1), .int (iI r.2.2.2.2.2.1), .int (iI r.2.2.2.2.2.2.1), .int (iI r.2.2.2.2.2.2.2.1), .int (iI r.2.2.2.2.2.2.2.2.1), .int (iI r.2.2.2.2.2.2.2.2.2.1)])), (a0_result, .inr (3, [.ref a0_result_marks, .int (iI r.2.2.2.2.2.2.2.2.2.2.1)])), (a0_stack, .inl (cs.1, 720, .inl (aI r.2.2.2.2.2.2.2.2.2.2.2.1))), (a0_result_marks, .inl (cs.1, 360, .inl (aI r.2.2.2.2.2.2.2.2.2.2.2.2)))] := by
  refine q_start_z [(0, .ref a0), (1, .int (iI x1))] RX5 rfl (by decide +kernel) rfl (Nat.le_of_ble_eq_true rfl) (fun κ ok fin => ?_)
  unfold f_X5_takesBase at h
  refine j_iload_n (pc := 0) 1 ok dX5_takesBase_0 rfl rfl ?_
  obtain ⟨r1, hr1, h⟩ := bd_inv h
  refine j_callN (pc := 1) ok (k_X7_isLetter (x0 := x1) hr1) gN_X5_100 gNw_X5_100 gNi_X5_100 gNs_X5_100 hd_X7_isLetter [] (by decide) rfl rfl rfl rfl ⟨Nat.zero_le _, Nat.zero_le _⟩ (Nat.le_of_ble_eq_true rfl) dX5_takesBase_1 rfl [(a0, .inr (5, [.ref a0_signs, .int (iI a0_length), .ref a0_result, .ref a0_stack, .int (iI a0_top), .int (iI a0_state), .int (iI a0_bracket), .int (iI a0_chain), .int (iI a0_factor), .int (iI a0_isUnder), .int (iI a0_isPlain), .int (iI a0_script), .int (iI a0_isBound)])), (a0_result, .inr (3, [.ref a0_result_marks, .int (iI a0_result_size)])), (a0_stack, .inl (cs.1, 720, .inl (aI a0_stackF))), (a0_result_marks, .inl (cs.1, 360, .inl (aI a0_result_marksF)))] rfl ?_
  refine jn_use (P := fun z9 => q_J D κ 2 0 0 [(a0, .inr (5, [.ref a0_signs, .int (iI a0_length), .ref a0_result, .ref a0_stack, .int (iI a0_top), .int (iI a0_state), .int (iI a0_bracket), .int (iI a0_chain), .int (iI a0_factor), .int (iI a0_isUnder), .int (iI a0_isPlain), .int (iI a0_script), .int (iI a0_isBound)])), (a0_result, .inr (3, [.ref a0_result_marks, .int (iI a0_result_size)])), (a0_stack, .inl (cs.1, 720, .inl (aI a0_stackF))), (a0_result_marks, .inl (cs.1, 360, .inl (aI a0_result_marksF)))] [(0, .ref a0), (1, .int (iI x1))] 14 []) h (fun z9 h => ?_) (fun k2 hk2 h => ?_)
  · refine j_aload_n (pc := 14) 0 ok dX5_takesBase_14 rfl rfl ?_
    refine gf_X5_20_5 (pc := 15) 0 ok rfl dX5_takesBase_15 ?_
    refine j_iload_n (pc := 18) 1 ok dX5_takesBase_18 rfl rfl ?_
    obtain ⟨r10, hr10, h⟩ := bd_inv h
    refine j_callV (pc := 19) ok (k_X3_add (a0 := a0_result) (a0_marks := a0_result_marks) (a0_ci := 3) (a0_fx := []) (a0_marksN := 360) (a0_size := a0_result_size) (a0_marksF := a0_result_marksF) (x1 := x1) q_mk3 hr10) gV_X5_94 ⟨rfl, hd_X3_add⟩ [1, 3] (by decide) rfl rfl 1 rfl rfl rfl rfl ⟨Nat.zero_le _, Nat.zero_le _⟩ (Nat.le_of_ble_eq_true rfl) dX5_takesBase_19 rfl [(a0, .inr (5, [.ref a0_signs, .int (iI a0_length), .ref a0_result, .ref a0_stack, .int (iI a0_top), .int (iI a0_state), .int (iI a0_bracket), .int (iI a0_chain), .int (iI a0_factor), .int (iI a0_isUnder), .int (iI a0_isPlain), .int (iI a0_script), .int (iI a0_isBound)])), (a0_result, .inr (3, [.ref a0_result_marks, .int (iI r10.1)])), (a0_stack, .inl (cs.1, 720, .inl (aI a0_stackF))), (a0_result_marks, .inl (cs.1, 360, .inl (aI r10.2)))] rfl ?_
    refine j_aload_n (pc := 22) 0 ok dX5_takesBase_22 rfl rfl ?_
    refine j_iconst (pc := 23) ok dX5_takesBase_23 ?_
    obtain ⟨r11, hr11, h⟩ := bd_inv h
    refine j_callV (pc := 24) ok (k_X5_endBase (a0 := a0) (a0_signs := a0_signs) (a0_result := a0_result) (a0_stack := a0_stack) (a0_result_marks := a0_result_marks) (a0_length := a0_length) (a0_top := a0_top) (a0_state := a0_state) (a0_bracket := a0_bracket) (a0_chain := a0_chain) (a0_factor := a0_factor) (a0_isUnder := a0_isUnder) (a0_isPlain := a0_isPlain) (a0_script := a0_script) (a0_isBound := a0_isBound) (a0_result_size := r10.1) (a0_result_marksF := r10.2) (x1 := 0) hr11) gV_X5_106 ⟨rfl, hd_X5_endBase⟩ [0, 1, 3] (by decide) rfl rfl 0 rfl rfl rfl rfl ⟨Nat.zero_le _, Nat.zero_le _⟩ (Nat.le_of_ble_eq_true rfl) dX5_takesBase_24 rfl [(a0, .inr (5, [.ref a0_signs, .int (iI a0_length), .ref a0_result, .ref a0_stack, .int (iI a0_top), .int (iI r11.1), .int (iI a0_bracket), .int (iI a0_chain), .int (iI a0_factor), .int (iI a0_isUnder), .int (iI r11.2.1), .int (iI r11.2.2.1), .int (iI a0_isBound)])), (a0_result, .inr (3, [.ref a0_result_marks, .int (iI r11.2.2.2.1)])), (a0_stack, .inl (cs.1, 720, .inl (aI a0_stackF))), (a0_result_marks, .inl (cs.1, 360, .inl (aI r11.2.2.2.2)))] rfl ?_
    refine j_iconst (pc := 27) ok dX5_takesBase_27 ?_
    obtain ⟨hbo, h⟩ := gB_inv h
    obtain rfl := Option.some.inj h
    exact fin _ 28 hbo dX5_takesBase_28
  · refine j_if_ne (pc := 4) 14 ok dX5_takesBase_4 (by decide) h (fun h => ?_) (fun h => ?_)
    · exact hk2 () h
    · refine j_iload_n (pc := 7) 1 ok dX5_takesBase_7 rfl rfl ?_
      obtain ⟨r3, hr3, h⟩ := bd_inv h
      refine j_callN (pc := 8) ok (k_X7_isDigit (x0 := x1) hr3) gN_X5_103 gNw_X5_103 gNi_X5_103 gNs_X5_103 hd_X7_isDigit [] (by decide) rfl rfl rfl rfl ⟨Nat.zero_le _, Nat.zero_le _⟩ (Nat.le_of_ble_eq_true rfl) dX5_takesBase_8 rfl [(a0, .inr (5, [.ref a0_signs, .int (iI a0_length), .ref a0_result, .ref a0_stack, .int (iI a0_top), .int (iI a0_state), .int (iI a0_bracket), .int (iI a0_chain), .int (iI a0_factor), .int (iI a0_isUnder), .int (iI a0_isPlain), .int (iI a0_script), .int (iI a0_isBound)])), (a0_result, .inr (3, [.ref a0_result_marks, .int (iI a0_result_size)])), (a0_stack, .inl (cs.1, 720, .inl (aI a0_stackF))), (a0_result_marks, .inl (cs.1, 360, .inl (aI a0_result_marksF)))] rfl ?_
      refine j_if_eq (pc := 11) 29 ok dX5_takesBase_11 (by decide) h (fun h => ?_) (fun h => ?_)
      · refine j_iload_n (pc := 29) 1 ok dX5_takesBase_29 rfl rfl ?_
        refine j_bipush (pc := 30) ok dX5_takesBase_30 (by decide) ?_
        refine j_icmp_ne (pc := 32) 42 ok dX5_takesBase_32 (by decide) h (fun h => ?_) (fun h => ?_)
        · refine j_iload_n (pc := 42) 1 ok dX5_takesBase_42 rfl rfl ?_
          refine j_bipush (pc := 43) ok dX5_takesBase_43 (by decide) ?_
          refine jn_use (P := fun z8 => q_J D κ 2 0 0 [(a0, .inr (5, [.ref a0_signs, .int (iI a0_length), .ref a0_result, .ref a0_stack, .int (iI z8.1), .int (iI z8.2.1), .int (iI z8.2.2.1), .int (iI z8.2.2.2.1), .int (iI z8.2.2.2.2.1), .int (iI z8.2.2.2.2.2.1), .int (iI z8.2.2.2.2.2.2.1), .int (iI z8.2.2.2.2.2.2.2.1), .int (iI z8.2.2.2.2.2.2.2.2.1)])), (a0_result, .inr (3, [.ref a0_result_marks, .int (iI z8.2.2.2.2.2.2.2.2.2.1)])), (a0_stack, .inl (cs.1, 720, .inl (aI z8.2.2.2.2.2.2.2.2.2.2.1))), (a0_result_marks, .inl (cs.1, 360, .inl (aI z8.2.2.2.2.2.2.2.2.2.2.2.1)))] [] 61 [.int (iI z8.2.2.2.2.2.2.2.2.2.2.2.2)]) h (fun z8 h => ?_) (fun k5 hk5 h => ?_)
          · obtain ⟨hbo, h⟩ := gB_inv h
            obtain rfl := Option.some.inj h
            exact fin _ 61 hbo dX5_takesBase_61
          · refine jn_use (P := fun z7 => q_J D κ 2 0 0 [(a0, .inr (5, [.ref a0_signs, .int (iI a0_length), .ref a0_result, .ref a0_stack, .int (iI z7.1), .int (iI z7.2.1), .int (iI z7.2.2.1), .int (iI z7.2.2.2.1), .int (iI z7.2.2.2.2.1), .int (iI z7.2.2.2.2.2.1), .int (iI z7.2.2.2.2.2.2.1), .int (iI z7.2.2.2.2.2.2.2.1), .int (iI z7.2.2.2.2.2.2.2.2.1)])), (a0_result, .inr (3, [.ref a0_result_marks, .int (iI z7.2.2.2.2.2.2.2.2.2.1)])), (a0_stack, .inl (cs.1, 720, .inl (aI z7.2.2.2.2.2.2.2.2.2.2.1))), (a0_result_marks, .inl (cs.1, 360, .inl (aI z7.2.2.2.2.2.2.2.2.2.2.2)))] [] 60 []) h (fun z7 h => ?_) (fun k4 hk4 h => ?_)
            · refine j_iconst (pc := 60) ok dX5_takesBase_60 ?_
              exact hk5 (z7.1, z7.2.1, z7.2.2.1, z7.2.2.2.1, z7.2.2.2.2.1, z7.2.2.2.2.2.1, z7.2.2.2.2.2.2.1, z7.2.2.2.2.2.2.2.1, z7.2.2.2.2.2.2.2.2.1, z7.2.2.2.2.2.2.2.2.2.1, z7.2.2.2.2.2.2.2.2.2.2.1, z7.2.2.2.2.2.2.2.2.2.2.2, 0) h
            · refine j_icmp_ne (pc := 45) 60 ok dX5_takesBase_45 (by decide) h (fun h => ?_) (fun h => ?_)
              · refine j_lv [] rfl ?_
                exact hk4 (a0_top, a0_state, a0_bracket, a0_chain, a0_factor, a0_isUnder, a0_isPlain, a0_script, a0_isBound, a0_result_size, a0_stackF, a0_result_marksF) h
              · refine j_aload_n (pc := 48) 0 ok dX5_takesBase_48 rfl rfl ?_
                refine j_iconst (pc := 49) ok dX5_takesBase_49 ?_
                obtain ⟨r6, hr6, h⟩ := bd_inv h
                refine j_callV (pc := 50) ok (k_X5_opensBracket (a0 := a0) (a0_signs := a0_signs) (a0_result := a0_result) (a0_stack := a0_stack) (a0_result_marks := a0_result_marks) (a0_length := a0_length) (a0_top := a0_top) (a0_state := a0_state) (a0_bracket := a0_bracket) (a0_chain := a0_chain) (a0_factor := a0_factor) (a0_isUnder := a0_isUnder) (a0_isPlain := a0_isPlain) (a0_script := a0_script) (a0_isBound := a0_isBound) (a0_result_size := a0_result_size) (a0_stackF := a0_stackF) (a0_result_marksF := a0_result_marksF) (x1 := 5) hr6) gV_X5_78 ⟨rfl, hd_X5_opensBracket⟩ [0, 1, 2, 3] (by decide) rfl rfl 0 rfl rfl rfl rfl ⟨Nat.zero_le _, Nat.zero_le _⟩ (Nat.le_of_ble_eq_true rfl) dX5_takesBase_50 rfl [(a0, .inr (5, [.ref a0_signs, .int (iI a0_length), .ref a0_result, .ref a0_stack, .int (iI r6.2.1), .int (iI r6.2.2.1), .int (iI r6.2.2.2.1), .int (iI r6.2.2.2.2.1), .int (iI r6.2.2.2.2.2.1), .int (iI r6.2.2.2.2.2.2.1), .int (iI r6.2.2.2.2.2.2.2.1), .int (iI r6.2.2.2.2.2.2.2.2.1), .int (iI r6.2.2.2.2.2.2.2.2.2.1)])), (a0_result, .inr (3, [.ref a0_result_marks, .int (iI r6.2.2.2.2.2.2.2.2.2.2.1)])), (a0_stack, .inl (cs.1, 720, .inl (aI r6.2.2.2.2.2.2.2.2.2.2.2.1))), (a0_result_marks, .inl (cs.1, 360, .inl (aI r6.2.2.2.2.2.2.2.2.2.2.2.2)))] rfl ?_
                refine j_if_eq (pc := 53) 60 ok dX5_takesBase_53 (by decide) h (fun h => ?_) (fun h => ?_)
                · refine j_lv [] rfl ?_
                  exact hk4 (r6.2.1, r6.2.2.1, r6.2.2.2.1, r6.2.2.2.2.1, r6.2.2.2.2.2.1, r6.2.2.2.2.2.2.1, r6.2.2.2.2.2.2.2.1, r6.2.2.2.2.2.2.2.2.1, r6.2.2.2.2.2.2.2.2.2.1, r6.2.2.2.2.2.2.2.2.2.2.1, r6.2.2.2.2.2.2.2.2.2.2.2.1, r6.2.2.2.2.2.2.2.2.2.2.2.2) h
                · refine j_iconst (pc := 56) ok dX5_takesBase_56 ?_
                  refine j_goto (pc := 57) 61 ok dX5_takesBase_57 (by decide) ?_
                  refine j_lv [] rfl ?_
                  exact hk5 (r6.2.1, r6.2.2.1, r6.2.2.2.1, r6.2.2.2.2.1, r6.2.2.2.2.2.1, r6.2.2.2.2.2.2.1, r6.2.2.2.2.2.2.2.1, r6.2.2.2.2.2.2.2.2.1, r6.2.2.2.2.2.2.2.2.2.1, r6.2.2.2.2.2.2.2.2.2.2.1, r6.2.2.2.2.2.2.2.2.2.2.2.1, r6.2.2.2.2.2.2.2.2.2.2.2.2, 1) h
        · refine j_aload_n (pc := 35) 0 ok dX5_takesBase_35 rfl rfl ?_
          refine j_iconst (pc := 36) ok dX5_takesBase_36 ?_
          refine pf_X5_41_5 (pc := 37) 0 ok rfl dX5_takesBase_37 [(a0, .inr (5, [.ref a0_signs, .int (iI a0_length), .ref a0_result, .ref a0_stack, .int (iI a0_top), .int (iI 3), .int (iI a0_bracket), .int (iI a0_chain), .int (iI a0_factor), .int (iI a0_isUnder), .int (iI a0_isPlain), .int (iI a0_script), .int (iI a0_isBound)])), (a0_result, .inr (3, [.ref a0_result_marks, .int (iI a0_result_size)])), (a0_stack, .inl (cs.1, 720, .inl (aI a0_stackF))), (a0_result_marks, .inl (cs.1, 360, .inl (aI a0_result_marksF)))] rfl ?_
          refine j_iconst (pc := 40) ok dX5_takesBase_40 ?_
          obtain ⟨hbo, h⟩ := gB_inv h
          obtain rfl := Option.some.inj h
          exact fin _ 41 hbo dX5_takesBase_41
      · exact hk2 () h
